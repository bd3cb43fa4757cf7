/** Edges of promises 16 to 18: what a ship can do, the parts of a watch. */
final class ShipEdges {
    private static final int LOW = Integer.MIN_VALUE;
    private static final int HIGH = Integer.MAX_VALUE;

    private ShipEdges() { }

    static void all() {
        orders();
        pushFires();
        pushCells();
        pushMay();
        pushCost();
        mooring();
        banking();
        nothingElse();
        canOthers();
        doing();
        lead();
        noLead();
        iceGoes();
        iceClause();
        drifting();
        nipping();
        counting();
        watchOthers();
        of();
    }

    private static ThroughPack sea(int cell, int coal) {
        ThroughPack x = new ThroughPack(3, 3);
        x.ship(0, cell, coal);
        return x;
    }

    private static ThroughPack ruled(int cell, int coal, String text) {
        ThroughPack x = sea(cell, coal);
        Check.rule(x, text);
        return x;
    }

    private static void orders() {
        Doc.says(Doc.TERMS, "ORDERS: 0 .. 3 push to y - 1, x + 1, y + 1, x - 1; 4 moor; 5 hold; 6 bank; 7 raise.");
        int[] cells = {1, 5, 7, 3, 4, 4, 4};
        int[] coals = {19, 19, 19, 19, 19, 18, 20};
        for (int order = 0; order < 7; order++) {
            ThroughPack x = sea(4, 20);
            Check.due("order " + order, x.watch(0, order, -1), 1);
            Check.due("her CELL by " + order, x.of(0, 0), cells[order]);
            Check.due("her COAL by " + order, x.of(0, 1), coals[order]);
            Check.due("BANKED by " + order, x.of(0, 2), order == 6 ? 1 : 0);
        }
        ThroughPack x = sea(4, 20);
        x.watch(0, 6, -1);
        Check.due("raise", x.watch(0, 7, -1), 1);
        Check.due("burning", x.of(0, 2), 0);
        Check.due("her COAL", x.of(0, 1), 17);
    }

    private static void pushFires() {
        Doc.says(Doc.TERMS, "She can: push, if her fires burn,");
        ThroughPack x = ruled(4, 20, "cost 0;");
        x.image();
        for (int order = 0; order < 4; order++) {
            Check.due("burning", x.can(0, order), true);
        }
        x.watch(0, 6, -1);
        for (int order = 0; order < 4; order++) {
            Check.due("BANKED", x.can(0, order), false);
            Check.due("nor does she", x.watch(0, order, -1), 0);
            Check.due("her CELL", x.of(0, 0), 4);
        }
    }

    private static void pushCells() {
        Doc.says(Doc.TERMS, "there is such a CELL,");
        for (int w = 3; w <= 6; w += 3) {
            ThroughPack x = new ThroughPack(w, 4);
            for (int c = 0; c < 4 * w; c++) {
                x.ship(0, c, 20);
                boolean[] due = {c >= w, c % w < w - 1, c < 3 * w, c % w > 0};
                for (int order = 0; order < 4; order++) {
                    Check.due("from " + c + " by " + order, x.can(0, order), due[order]);
                }
            }
        }
        ThroughPack x = sea(2, 20);
        Check.due("beyond the row is no CELL of the next", x.watch(0, 1, -1), 0);
        Check.due("she stays", x.of(0, 0), 2);
        x.ship(0, 3, 20);
        Check.due("nor of the one before", x.watch(0, 3, -1), 0);
    }

    private static void pushMay() {
        Doc.says(Doc.TERMS, "a may clause is so for it (without any: its ICE is 30 at most)");
        ThroughPack x = sea(4, 99);
        x.ice(1, 30);
        x.ice(5, 31);
        x.ice(7, 0);
        x.ice(3, 99);
        boolean[] without = {true, false, true, false};
        boolean[] none = {false, false, false, false};
        boolean[] one = {false, true, false, false};
        boolean[] two = {false, true, false, true};
        cans("no TEXT", x, without);
        Check.rule(x, "cost 1;walk 1=2;");
        cans("a TEXT without any", x, without);
        Check.rule(x, "may 1=2;");
        cans("one that is never so", x, none);
        Check.rule(x, "may thick=31;");
        cans("one that is so for 31", x, one);
        Check.rule(x, "may thick=98;may thick=31;may thick=99;");
        cans("two of three", x, two);
    }

    private static void cans(String what, ThroughPack x, boolean[] due) {
        for (int order = 0; order < 4; order++) {
            Check.due(what + ", " + order, x.can(0, order), due[order]);
        }
    }

    private static void pushCost() {
        Doc.says(Doc.TERMS, "and she has its COST in COAL;");
        int[] ice = {0, 9, 10, 19, 20, 29, 30};
        int[] cost = {1, 1, 2, 2, 3, 3, 4};
        for (int i = 0; i < ice.length; i++) {
            ThroughPack x = sea(0, cost[i]);
            x.ice(1, ice[i]);
            Check.due("just enough for " + ice[i], x.can(0, 1), true);
            x.ship(0, 0, cost[i] - 1);
            Check.due("one too little", x.can(0, 1), false);
        }
        Doc.says(Doc.TERMS, "COST of a push: cost (0 at least, 99 at most; without 1 + ICE / 10) of the CELL that is "
                + "pushed into.");
        String[] sums = {"0-1", "0", "1", "98", "99", "100", "999*999", "-999*999"};
        int[] due = {0, 0, 1, 98, 99, 99, 99, 0};
        for (int i = 0; i < sums.length; i++) {
            ThroughPack x = ruled(0, due[i], "cost " + sums[i] + ";");
            Check.due("just enough for " + sums[i], x.watch(0, 1, -1), 1);
            Check.due("nothing is left", x.of(0, 1), 0);
            if (due[i] > 0) {
                x.ship(0, 0, due[i] - 1);
                Check.due("one too little for " + sums[i], x.can(0, 1), false);
            }
        }
        ThroughPack x = ruled(0, 10, "may 1=1;");
        x.ice(1, 99);
        x.ice(0, 50);
        Check.due("without cost 99 takes 10", x.watch(0, 1, -1), 1);
        Check.due("nothing is left", x.of(0, 1), 0);
        x = ruled(0, 7, "cost thick;");
        x.ice(1, 7);
        x.ice(0, 50);
        Check.due("of the CELL that is pushed into", x.watch(0, 1, -1), 1);
        Check.due("7", x.of(0, 1), 0);
    }

    private static void mooring() {
        Doc.says(Doc.TERMS, "moor and hold with burning fires and COST in COAL (at first 1, 2);");
        for (int order = 4; order < 6; order++) {
            int cost = order - 3;
            ThroughPack x = sea(4, cost);
            Check.due("just enough", x.can(0, order), true);
            x.ship(0, 4, cost - 1);
            Check.due("one too little", x.can(0, order), false);
            Check.due("it isn't done", x.watch(0, order, -1), 0);
            Check.due("her COAL stays", x.of(0, 1), cost - 1);
            x.costs(99, 99, 0);
            x.ship(0, 4, 99);
            Check.due("99 of 99", x.can(0, order), true);
            x.ship(0, 4, 98);
            Check.due("98 of 99", x.can(0, order), false);
            x.costs(0, 0, 0);
            x.ship(0, 4, 0);
            Check.due("0 of 0", x.can(0, order), true);
            x.watch(0, 6, -1);
            Check.due("BANKED", x.can(0, order), false);
        }
    }

    private static void banking() {
        Doc.says(Doc.TERMS, "bank with burning or BANKED fires (no COST);");
        ThroughPack x = sea(4, 0);
        x.costs(99, 99, 99);
        Check.due("burning, no COAL", x.watch(0, 6, -1), 1);
        Check.due("BANKED, no COAL", x.watch(0, 6, -1), 1);
        Check.due("no COST", x.of(0, 1), 0);
        Doc.says(Doc.TERMS, "raise BANKED ones by its COST (at first 3).");
        x = sea(4, 3);
        x.costs(1, 2, 0);
        Check.due("burning", x.can(0, 7), false);
        x = sea(4, 3);
        x.watch(0, 6, -1);
        Check.due("just enough", x.watch(0, 7, -1), 1);
        Check.due("nothing is left", x.of(0, 1), 0);
        x.ship(0, 4, 2);
        x.watch(0, 6, -1);
        Check.due("one too little", x.watch(0, 7, -1), 0);
        Check.due("BANKED still", x.of(0, 2), 1);
        Check.due("her COAL stays", x.of(0, 1), 2);
        x.costs(9, 9, 2);
        Check.due("2 of 2", x.can(0, 7), true);
        x.costs(9, 9, 0);
        Check.due("0", x.can(0, 7), true);
    }

    private static void nothingElse() {
        Doc.says(Doc.TERMS, "She can do nothing else; if she is OUT or NIPPED, nothing.");
        Doc.says(Doc.TERMS, "She is OUT, or NIPPED, or neither.");
        ThroughPack x = new ThroughPack(3, 3);
        x.costs(0, 0, 0);
        x.mark(1, false, true);
        x.ship(0, 4, 9);
        x.ship(1, 3, 9);
        Check.rule(x, "nips y=1;");
        x.watch(0, 0, 6);
        int[] fates = {1, 2};
        for (int ship = 0; ship < 2; ship++) {
            Check.due("OUT, NIPPED", x.of(ship, 3), fates[ship]);
            for (int order = 0; order < 8; order++) {
                Check.due("nothing: " + order, x.can(ship, order), false);
            }
        }
        for (int order = 0; order < 8; order++) {
            Check.due("nor is it done", x.watch(0, order, order), 0);
        }
        for (int ship = 0; ship < 2; ship++) {
            Check.due("as she was", x.of(ship, 3), fates[ship]);
            Check.due("her CELL", x.of(ship, 0), ship == 0 ? 1 : 3);
        }
    }

    private static void canOthers() {
        Doc.says(16, "Whether a SHIP can do an ORDER as it is now.");
        ThroughPack x = ruled(4, 5, "may watch=1 and wind=2;cost watch*5;");
        Check.due("not yet", x.can(0, 1), false);
        x.watch(2, 6, -1);
        x.ship(0, 4, 5);
        Check.due("now", x.can(0, 1), true);
        x.ship(0, 4, 4);
        Check.due("without its COST", x.can(0, 1), false);
        Doc.says(16, "False for others (for SHIP 1 as if SHIP 0 didn't push).");
        for (int v : new int[] {-1, 2, LOW, HIGH}) {
            Check.due("SHIP " + v, x.can(v, 6), false);
        }
        for (int v : new int[] {-1, 8, LOW, HIGH}) {
            Check.due("ORDER " + v, x.can(0, v), false);
        }
        for (int order = 0; order < 8; order++) {
            Check.due("of one who isn't there", x.can(1, order), false);
        }
        x = sea(1, 9);
        x.ship(1, 0, 9);
        x.ice(1, 31);
        Check.due("SHIP 0 didn't push", x.can(1, 1), false);
        Check.due("if she pushes it can be done", x.watch(0, 1, 1), 3);
    }

    private static void doing() {
        Doc.says(Doc.TERMS, "A WATCH by a WIND v: (1) each SHIP that can does her ORDER (0, then 1), COAL is less by the "
                + "COST; by push she is in that CELL, and OUT if it is an EXIT.");
        ThroughPack x = sea(0, 1);
        x.ship(1, 8, 1);
        x.mark(1, false, true);
        x.mark(7, false, true);
        Check.due("both push by their last COAL", x.watch(0, 1, 3), 3);
        for (int ship = 0; ship < 2; ship++) {
            Check.due("her CELL", x.of(ship, 0), ship == 0 ? 1 : 7);
            Check.due("her COAL", x.of(ship, 1), 0);
            Check.due("OUT", x.of(ship, 3), 1);
        }
        x.ship(0, 0, 9);
        x.ship(1, 1, 9);
        x.ice(1, 40);
        Check.due("SHIP 1 leaves no lead for 0, who goes first", x.watch(0, 1, 1), 2);
        Doc.says(17, "A WATCH by a WIND, with ORDERS of both (NONE: none; who can't do hers does none): bits of those who "
                + "did theirs.");
        x = sea(4, 9);
        x.ship(1, 4, 9);
        Check.due("none", x.watch(0, -1, -1), 0);
        Check.due("the one", x.watch(0, 5, -1), 1);
        Check.due("the other", x.watch(0, -1, 5), 2);
        Check.due("both", x.watch(0, 5, 5), 3);
        Check.due("the one can't", x.watch(0, 7, 5), 2);
        Check.due("the other can't", x.watch(0, 5, 7), 1);
        Check.due("neither can", x.watch(0, 7, 7), 0);
        Check.due("COAL of what was done alone", 10 * x.of(0, 1) + x.of(1, 1), 33);
        x.ship(1, -1, 0);
        Check.due("one who isn't there does none", x.watch(0, 6, 6), 1);
        Check.due("seven WATCHES and one more", x.about(2), 8);
    }

    private static void lead() {
        Doc.says(Doc.TERMS, "For SHIP 1 the ICE of the CELL in which SHIP 0 lay as the WATCH began is 0 in this (1),");
        ThroughPack x = sea(4, 9);
        x.ship(1, 3, 1);
        x.ice(4, 99);
        x.image();
        Check.due("99 is 0 for her, by 1 of COAL", x.watch(0, 1, 1), 3);
        Check.due("she lies in it", x.of(1, 0), 4);
        Check.due("her COAL", x.of(1, 1), 0);
        Check.due("ICE is as it was", x.iceAt(4), 99);
        x.back();
        x.ice(5, 20);
        x.ship(1, 8, 2);
        Check.due("where SHIP 0 is then, ICE is ICE", x.watch(0, 1, 0), 1);
        x.back();
        Check.rule(x, "may thick=0 and (north+east+south+west)=0;cost 0;nips thick>50;");
        x.ship(1, 8, 0);
        Check.due("beside CELL 7 is 99", x.can(1, 3), false);
        Check.due("SHIP 0 can't go beside it either", x.can(0, 1), false);
        x.by(Check.read(x, "may y=1;may south=0 and thick=0 and north=0;nips thick>50;cost north;"));
        Check.due("north of 7 is 0 in this (1)", x.watch(0, 1, 3), 3);
        Check.due("and so is her COST", x.of(1, 1), 0);
        x.back();
        x.mark(5, false, true);
        x.by(Check.read(x, "may thick<31;nips thick=99;"));
        Check.due("SHIP 0 goes OUT and leaves a lead", x.watch(0, 1, 1), 3);
        Check.due("OUT", x.of(0, 3), 1);
        Check.due("99 nips SHIP 1: it was 0 in (1) alone", x.of(1, 3), 2);
    }

    private static void noLead() {
        Doc.says(Doc.TERMS, "if SHIP 0 has pushed.");
        int[] orders = {-1, 4, 5, 6, 3, 7};
        for (int order : orders) {
            ThroughPack x = sea(4, 9);
            x.ship(1, 7, 9);
            x.ice(4, 31);
            x.ice(3, 31);
            int did = order == -1 || order == 3 || order == 7 ? 0 : 1;
            Check.due("SHIP 0 has not pushed by " + order, x.watch(0, order, 0), did);
            Check.due("no lead", x.of(1, 0), 7);
        }
        ThroughPack x = sea(4, 9);
        x.watch(0, 6, -1);
        x.ship(1, 7, 9);
        x.ice(4, 31);
        Check.due("raised", x.watch(0, 7, 0), 1);
        x = sea(4, 1);
        x.ship(1, 7, 9);
        x.ice(4, 31);
        x.ice(5, 10);
        Check.due("without COAL to push", x.watch(0, 1, 0), 0);
    }

    private static void iceGoes() {
        Doc.says(Doc.TERMS, "(2) THE ICE GOES: at (x, y) is what was at (x - dx, y - dy) by v's DRIFT, EDGE from beyond;");
        for (int d = 0; d < 9; d++) {
            int dx = d % 3 - 1;
            int dy = d / 3 - 1;
            ThroughPack x = new ThroughPack(4, 3);
            for (int c = 0; c < 12; c++) {
                x.ice(c, c + 1);
            }
            x.edge(77);
            x.drift(3, dx, dy);
            x.watch(3, -1, -1);
            for (int c = 0; c < 12; c++) {
                int fromX = c % 4 - dx;
                int fromY = c / 4 - dy;
                boolean beyond = fromX < 0 || fromX > 3 || fromY < 0 || fromY > 2;
                Check.due("drift " + dx + " " + dy + " to " + c, x.iceAt(c), beyond ? 77 : fromX + 4 * fromY + 1);
            }
        }
    }

    private static void iceClause() {
        Doc.says(Doc.TERMS, "then, at all CELLS at once, ice (held between 0 and 99; without: as it is).");
        String[] sums = {"0-1", "0", "1", "99", "100", "999*999", "-999"};
        int[] due = {0, 0, 1, 99, 99, 99, 0};
        for (int i = 0; i < sums.length; i++) {
            ThroughPack x = ruled(0, 9, "ice " + sums[i] + ";");
            x.ice(4, 50);
            x.watch(0, -1, -1);
            Check.due("ice " + sums[i], x.iceAt(4), due[i]);
        }
        ThroughPack x = ruled(0, 9, "ice west;");
        for (int c = 0; c < 3; c++) {
            x.ice(c, c + 1);
        }
        x.edge(8);
        x.watch(0, -1, -1);
        Check.due("at once: the first is the EDGE's", x.iceAt(0), 8);
        Check.due("the second what the first was", x.iceAt(1), 1);
        Check.due("the third what the second was", x.iceAt(2), 2);
        x = ruled(0, 9, "may 1=1;");
        x.ice(4, 99);
        x.watch(0, -1, -1);
        Check.due("without: as it is", x.iceAt(4), 99);
        Doc.says(Doc.TERMS, "ice clauses are asked of the ICE behind the DRIFT.");
        x = ruled(0, 9, "ice thick*2+west;");
        x.ice(3, 20);
        x.ice(4, 5);
        x.edge(3);
        x.drift(1, 1, 0);
        x.watch(1, -1, -1);
        // Behind the DRIFT the row is 3 20 5.
        Check.due("EDGE twice, and EDGE", x.iceAt(3), 9);
        Check.due("20 twice, and EDGE", x.iceAt(4), 43);
        Check.due("5 twice, and 20", x.iceAt(5), 30);
    }

    private static void drifting() {
        Doc.says(Doc.TERMS, "(3) A SHIP that neither pushed nor held, nor is OUT or NIPPED, goes by the DRIFT, if that is a "
                + "CELL (an EXIT doesn't let her OUT so).");
        for (int d = 0; d < 9; d++) {
            int dx = d % 3 - 1;
            int dy = d / 3 - 1;
            for (int c = 0; c < 9; c++) {
                ThroughPack x = sea(c, 9);
                x.ship(1, c, 9);
                x.drift(2, dx, dy);
                x.mark(c, false, true);
                x.watch(2, 4, -1);
                int toX = c % 3 + dx;
                int toY = c / 3 + dy;
                boolean isCell = toX >= 0 && toX < 3 && toY >= 0 && toY < 3;
                int due = isCell ? toX + 3 * toY : c;
                Check.due("moored in " + c + " by " + dx + " " + dy, x.of(0, 0), due);
                Check.due("SHIP 1 likewise", x.of(1, 0), due);
            }
        }
        ThroughPack x = sea(0, 9);
        x.drift(1, 1, 0);
        x.mark(1, false, true);
        x.image();
        int[] orders = {-1, 4, 6, 7, 1, 5, 2};
        int[] cells = {1, 1, 1, 1, 1, 0, 3};
        for (int i = 0; i < orders.length; i++) {
            x.back();
            x.watch(1, orders[i], -1);
            Check.due("her CELL by " + orders[i], x.of(0, 0), cells[i]);
            Check.due("OUT by a push alone", x.of(0, 3), orders[i] == 1 ? 1 : 0);
        }
        x.back();
        x.watch(1, 4, -1);
        Check.due("in the EXIT she goes on", x.watch(1, 1, -1), 1);
        Check.due("her CELL", x.of(0, 0), 2);
        Check.due("pushed back into it", x.watch(1, 3, -1), 1);
        Check.due("OUT", x.of(0, 3), 1);
        x.watch(1, -1, -1);
        Check.due("who is OUT goes by no DRIFT", x.of(0, 0), 1);
        x.ship(0, 0, 9);
        Check.rule(x, "nips x=0;");
        x.watch(1, 5, -1);
        x.watch(1, -1, -1);
        Check.due("nor who is NIPPED", 10 * x.of(0, 0) + x.of(0, 3), 2);
    }

    private static void nipping() {
        Doc.says(Doc.TERMS, "(4) One that isn't OUT is NIPPED, if a nips clause is so for her CELL (without any: never).");
        ThroughPack x = sea(4, 9);
        x.ice(4, 99);
        x.watch(0, 5, -1);
        Check.due("no TEXT", x.of(0, 3), 0);
        Check.rule(x, "may 1=1;");
        x.watch(0, 5, -1);
        Check.due("a TEXT without any", x.of(0, 3), 0);
        int[] ice = {49, 50};
        for (int i = 0; i < 2; i++) {
            x = ruled(4, 9, "nips thick>99;nips thick>=50;");
            x.ice(3, ice[i]);
            x.drift(1, 1, 0);
            x.watch(1, 5, -1);
            Check.due("one of two clauses, ICE as it has come: " + ice[i], x.of(0, 3), 2 * i);
        }
        x = ruled(3, 9, "nips x=1;");
        x.ship(1, 3, 9);
        x.drift(1, 1, 0);
        Check.due("one moors, one holds", x.watch(1, 4, 5), 3);
        Check.due("NIPPED where she has come", x.of(0, 3), 2);
        Check.due("the other isn't", x.of(1, 3), 0);
        Check.due("she pushes into it", x.watch(0, -1, 1), 2);
        Check.due("NIPPED", x.of(1, 3), 2);
        x.by(-1);
        x.watch(0, -1, -1);
        Check.due("NIPPED for good", x.of(0, 3), 2);
        x = ruled(0, 9, "nips 1=1;");
        x.mark(1, false, true);
        x.watch(0, 1, -1);
        x.watch(0, 1, -1);
        Check.due("OUT is never NIPPED", x.of(0, 3), 1);
        x.watch(0, -1, -1);
        x.ship(1, -1, 0);
        Check.due("nor is one who isn't there", x.of(1, 3), -1);
    }

    private static void counting() {
        Doc.says(Doc.TERMS, "THE WIND is v, THE WATCH one more.");
        Doc.says(Doc.TERMS, "THE WIND (at first 0): of the latest WATCH.");
        ThroughPack x = sea(0, 9);
        Check.due("at first", x.about(3), 0);
        for (int v = 3; v >= 0; v--) {
            x.watch(v, -1, -1);
            Check.due("THE WIND", x.about(3), v);
            Check.due("THE WATCH", x.about(2), 4 - v);
        }
        Doc.says(Doc.TERMS, "THE WATCH: how many went by (0 .. 99).");
        for (int i = 4; i < 99; i++) {
            Check.due("watch " + i, x.watch(0, 6, -1), 1);
        }
        Check.due("99 went by", x.about(2), 99);
    }

    private static void watchOthers() {
        Doc.says(17, "NONE for others, and if THE WATCH is 99.");
        ThroughPack x = sea(0, 9);
        x.drift(0, 1, 0);
        x.drift(1, 1, 0);
        x.look(0, 0);
        int[][] others = {{-1, 4, 4}, {4, 4, 4}, {LOW, 4, 4}, {1, -2, 4}, {1, 8, 4}, {1, HIGH, 4}, {1, 4, -2}, {1, 4, 8},
            {1, 4, LOW}};
        for (int[] o : others) {
            Check.due("watch of others", x.watch(o[0], o[1], o[2]), -1);
        }
        Check.due("none went by", x.about(2), 0);
        Check.due("she has gone nowhere", x.of(0, 0), 0);
        for (int i = 0; i < 98; i++) {
            x.watch(2, -1, -1);
        }
        x.image();
        Check.due("the 99th", x.watch(2, 4, -1), 1);
        Check.due("the 100th", x.watch(1, 4, -1), -1);
        Check.due("THE WATCH", x.about(2), 99);
        Check.due("THE WIND", x.about(3), 2);
        Check.due("her CELL", x.of(0, 0), 0);
        Check.due("her COAL", x.of(0, 1), 8);
        Check.due("what was looked at", x.think(0, -1), 1);
        Check.due("without orders", x.watch(0, -1, -1), -1);
        Check.due("back to 98", x.back(), 98);
        Check.due("the 99th again", x.watch(0, 4, -1), 1);
        Check.due("she drifts", x.of(0, 0), 1);
    }

    private static void of() {
        Doc.says(18, "Of a SHIP: 0 her CELL, 1 COAL, 2 BANKED (1, 0), 3 0 neither, 1 OUT, 2 NIPPED.");
        ThroughPack x = ruled(8, 99, "nips watch=1;");
        Check.due("CELL", x.of(0, 0), 8);
        Check.due("COAL", x.of(0, 1), 99);
        Check.due("burning", x.of(0, 2), 0);
        Check.due("neither", x.of(0, 3), 0);
        x.watch(0, 6, -1);
        Check.due("BANKED", x.of(0, 2), 1);
        x.watch(0, 6, -1);
        Check.due("NIPPED", x.of(0, 3), 2);
        Check.due("BANKED still", x.of(0, 2), 1);
        Doc.says(18, "NONE for others, and one that isn't there.");
        for (int v : new int[] {-1, 2, LOW, HIGH}) {
            Check.due("SHIP " + v, x.of(v, 0), -1);
        }
        for (int v : new int[] {-1, 4, LOW, HIGH}) {
            Check.due("what " + v, x.of(0, v), -1);
        }
        for (int what = 0; what < 4; what++) {
            Check.due("one that isn't there", x.of(1, what), -1);
        }
        x.ship(1, 0, 0);
        Check.due("there", x.of(1, 0), 0);
        Check.due("what 4 of her", x.of(1, 4), -1);
        x.ship(1, -1, 5);
        Check.due("not there again", x.of(1, 0), -1);
    }
}
