/** Edges of promises 1 to 10 and 39, and of the terms that they use. */
final class SeaEdges {
    private static final int LOW = Integer.MIN_VALUE;
    private static final int HIGH = Integer.MAX_VALUE;

    private SeaEdges() { }

    static void all() {
        newObject();
        cells();
        edge();
        winds();
        chances();
        chancesRefused();
        ships();
        costs();
        wind();
        about();
        aboutOthers();
    }

    private static void newObject() {
        Doc.says(1, "W by H CELLS (3 to 6 each; others: the nearest of these);");
        int[] sides = {LOW, -6, -1, 0, 1, 2, 3, 4, 5, 6, 7, 8, 100, HIGH};
        int[] due = {3, 3, 3, 3, 3, 3, 3, 4, 5, 6, 6, 6, 6, 6};
        for (int i = 0; i < sides.length; i++) {
            ThroughPack wide = new ThroughPack(sides[i], 4);
            Check.due("W of " + sides[i], wide.about(0), due[i]);
            Check.due("H of 4", wide.about(1), 4);
            ThroughPack high = new ThroughPack(5, sides[i]);
            Check.due("W of 5", high.about(0), 5);
            Check.due("H of " + sides[i], high.about(1), due[i]);
            Check.due("the last cell", high.ice(5 * due[i] - 1, 9), true);
            Check.due("one beyond it", high.ice(5 * due[i], 9), false);
        }
        Doc.says(1, "THE IMAGE is this.");
        ThroughPack x = new ThroughPack(4, 3);
        String first = Whole.of(x);
        x = new ThroughPack(4, 3);
        x.ice(3, 9);
        x.edge(9);
        x.mark(1, false, true);
        x.mark(1, true, true);
        x.drift(0, 1, 1);
        x.chances(0, 0, 10, 0, 0);
        x.ship(0, 5, 7);
        x.ship(1, 6, 7);
        x.costs(0, 0, 0);
        Check.rule(x, "nips x=1;");
        x.ahead(5, 1);
        x.order(3, 2);
        x.home(4);
        x.prior(0, 0);
        x.look(0, 0);
        x.watch(3, 4, 4);
        Check.due("back ahead of any image", x.back(), 0);
        Check.due("all is new again", Whole.of(x).equals(first), true);
    }

    private static void cells() {
        Doc.says(Doc.TERMS, "THE SEA: W by H CELLS (x, y from 0; c = x + W y), ICE 0 .. 99 in each (at first 0), "
                + "some are EXITS, some SHORE.");
        ThroughPack x = new ThroughPack(5, 3);
        for (int c = 0; c < 15; c++) {
            Check.due("ICE at first", x.iceAt(c), 0);
        }
        Check.due("no EXIT at first", x.watch(0, 1, -1) + x.of(0, 3), 1);
        Check.due("no SHORE at first", x.walk(0), -1);
        Check.rule(x, "may x=4 and y=2 or x=0 and y=0;");
        x.ship(0, 13, 9);
        Check.due("CELL 14 is x 4, y 2", x.can(0, 1), true);
        x.ship(0, 9, 9);
        Check.due("it is below 9", x.can(0, 2), true);
        x.ship(0, 5, 9);
        Check.due("CELL 0 is x 0, y 0", x.can(0, 0), true);
        Check.due("CELL 6 is neither", x.can(0, 1), false);
        Doc.says(2, "ICE of a CELL: true.");
        Check.due("the least", x.ice(14, 0), true);
        Check.due("it is 0", x.iceAt(14), 0);
        Check.due("the most", x.ice(14, 99), true);
        Check.due("it is 99", x.iceAt(14), 99);
        Doc.says(2, "False for others.");
        int[][] others = {{14, 100}, {14, -1}, {14, HIGH}, {14, LOW}, {15, 5}, {-1, 5}, {HIGH, 5}, {LOW, 5}};
        for (int[] o : others) {
            Check.due("ice(" + o[0] + ", " + o[1] + ")", x.ice(o[0], o[1]), false);
            Check.due("ICE is as it was", x.iceAt(14), 99);
        }
        Doc.says(3, "ICE of a CELL.");
        Check.due("the first", x.iceAt(0), 0);
        Check.due("the last", x.iceAt(14), 99);
        Doc.says(3, "NONE for others.");
        for (int c : new int[] {-1, 15, LOW, HIGH}) {
            Check.due("iceAt(" + c + ")", x.iceAt(c), -1);
        }
        marks();
    }

    private static void marks() {
        Doc.says(4, "EXITS or SHORE: a CELL is one, or not: true.");
        ThroughPack x = new ThroughPack(3, 3);
        Check.due("the last CELL is an EXIT", x.mark(8, false, true), true);
        Check.due("again", x.mark(8, false, true), true);
        Check.due("it is no SHORE by that", x.mark(8, true, false), true);
        x.ship(0, 7, 9);
        x.image();
        x.watch(0, 1, -1);
        Check.due("OUT", x.of(0, 3), 1);
        x.back();
        x.mark(8, false, false);
        Check.due("not any more, twice told", x.mark(8, false, false), true);
        x.watch(0, 1, -1);
        Check.due("not OUT", x.of(0, 3), 0);
        x.mark(8, false, true);
        Check.due("an EXIT made where she lies doesn't let her OUT", x.of(0, 3), 0);
        x.mark(8, true, true);
        Check.due("a CELL may be both", x.walk(0), 0);
        Doc.says(4, "False for others.");
        for (int c : new int[] {-1, 9, LOW, HIGH}) {
            for (int flags = 0; flags < 4; flags++) {
                Check.due("mark(" + c + ")", x.mark(c, flags < 2, flags % 2 == 0), false);
            }
        }
        Doc.says(25, "HOME: true.");
        Check.due("the first", x.home(0), true);
        Check.due("the last", x.home(8), true);
        Check.due("about(8)", x.about(8), 8);
        Doc.says(25, "False for others.");
        for (int c : new int[] {-1, 9, LOW, HIGH}) {
            Check.due("home(" + c + ")", x.home(c), false);
            Check.due("HOME stays", x.about(8), 8);
        }
    }

    private static void edge() {
        Doc.says(Doc.TERMS, "EDGE: ICE beyond (0 .. 99; at first 0).");
        ThroughPack x = new ThroughPack(3, 3);
        for (int c = 0; c < 9; c++) {
            x.ice(c, 50);
        }
        x.drift(1, 1, 0);
        x.watch(1, -1, -1);
        Check.due("0 comes in at first", x.iceAt(3), 0);
        Check.due("about(11) at first", x.about(11), 0);
        Doc.says(5, "EDGE: true.");
        Check.due("the most", x.edge(99), true);
        x.watch(1, -1, -1);
        Check.due("99 comes in", x.iceAt(3), 99);
        Check.due("the 0 went on", x.iceAt(4), 0);
        Check.due("the least", x.edge(0), true);
        x.watch(1, -1, -1);
        Check.due("0 comes in", x.iceAt(3), 0);
        x.edge(44);
        Doc.says(5, "False for others.");
        for (int v : new int[] {-1, 100, LOW, HIGH}) {
            Check.due("edge(" + v + ")", x.edge(v), false);
            Check.due("EDGE stays", x.about(11), 44);
        }
    }

    private static void winds() {
        Doc.says(Doc.TERMS, "WINDS 0 .. 3, each with a DRIFT (dx, dy: -1 .. 1 each; at first 0, 0),");
        ThroughPack still = new ThroughPack(3, 3);
        still.ice(4, 60);
        still.edge(9);
        still.ship(0, 4, 9);
        for (int v = 0; v < 4; v++) {
            still.watch(v, -1, -1);
            Check.due("no DRIFT at first, WIND " + v, still.iceAt(4), 60);
            Check.due("nor of her", still.of(0, 0), 4);
        }
        Doc.says(6, "DRIFT of a WIND: true.");
        for (int v = 0; v < 4; v++) {
            for (int d = 0; d < 9; d++) {
                ThroughPack x = new ThroughPack(3, 3);
                x.ice(4, 60);
                Check.due("drift", x.drift(v, d % 3 - 1, d / 3 - 1), true);
                for (int other = 0; other < 4; other++) {
                    x.image();
                    x.watch(other, -1, -1);
                    Check.due("by WIND " + other, x.iceAt(other == v ? d : 4), 60);
                    x.back();
                }
            }
        }
        Doc.says(6, "False for others.");
        ThroughPack x = new ThroughPack(3, 3);
        x.drift(0, 1, 0);
        x.ice(3, 60);
        int[][] others = {{-1, 0, 0}, {4, 0, 0}, {0, 2, 0}, {0, -2, 0}, {0, 0, 2}, {0, 0, -2}, {0, HIGH, 0}, {0, 0, LOW}};
        for (int[] o : others) {
            Check.due("drift of others", x.drift(o[0], o[1], o[2]), false);
        }
        x.watch(0, -1, -1);
        Check.due("the DRIFT stays", x.iceAt(4), 60);
    }

    /** The wind that a draw of 0 to 9 brings behind wind v, seen by where she drifts. */
    private static int drawn(ThroughPack x, int v, int draw) {
        // SEED * 7 + 3 ends in the digit that is drawn.
        int[] seeds = {1, 4, 7, 0, 3, 6, 9, 2, 5, 8};
        x.wind(v);
        int[] winds = {4, 5, 7, 3};
        int cell = x.run(0, seeds[draw], 1, 2);
        for (int i = 0; i < 4; i++) {
            if (winds[i] == cell) {
                return i;
            }
        }
        return -1;
    }

    private static ThroughPack drawing() {
        ThroughPack x = new ThroughPack(3, 3);
        x.ship(0, 4, 9);
        Check.read(x, "");
        x.drift(1, 1, 0);
        x.drift(2, 0, 1);
        x.drift(3, -1, 0);
        return x;
    }

    private static void chances() {
        Doc.says(Doc.TERMS, "and with CHANCES in tenths of the WIND that comes behind it (4 of them, 10 together; at "
                + "first 10 of itself).");
        ThroughPack x = drawing();
        for (int v = 0; v < 4; v++) {
            for (int draw = 0; draw < 10; draw++) {
                Check.due("at first behind " + v, drawn(x, v, draw), v);
            }
        }
        Doc.says(7, "CHANCES behind a WIND: true.");
        int[][] tenths = {{10, 0, 0, 0}, {0, 10, 0, 0}, {0, 0, 10, 0}, {0, 0, 0, 10}, {1, 0, 0, 9}, {9, 0, 0, 1},
            {0, 1, 9, 0}, {1, 2, 3, 4}, {4, 3, 2, 1}, {0, 5, 0, 5}};
        for (int v = 0; v < 4; v++) {
            for (int[] t : tenths) {
                x = drawing();
                Check.due("chances", x.chances(v, t[0], t[1], t[2], t[3]), true);
                for (int draw = 0; draw < 10; draw++) {
                    int due = draw < t[0] ? 0 : draw < t[0] + t[1] ? 1 : draw < t[0] + t[1] + t[2] ? 2 : 3;
                    Check.due("draw " + draw + " behind " + v, drawn(x, v, draw), due);
                }
                Check.due("another WIND's stay", drawn(x, (v + 1) % 4, 0), (v + 1) % 4);
            }
        }
    }

    private static void chancesRefused() {
        Doc.says(7, "False, changing nothing, for others, and if they aren't 10 together.");
        ThroughPack x = drawing();
        x.chances(2, 1, 2, 3, 4);
        int[][] others = {{-1, 10, 0, 0, 0}, {4, 10, 0, 0, 0}, {LOW, 10, 0, 0, 0}, {2, 9, 0, 0, 0}, {2, 10, 1, 0, 0},
            {2, 0, 0, 0, 0}, {2, 11, -1, 0, 0}, {2, -1, 11, 0, 0}, {2, 10, -1, 1, 0}, {2, 10, 1, -1, 0},
            {2, 10, 1, 0, -1}, {2, 0, 0, 11, -1}, {2, 3, 3, 3, 2}, {2, 1 << 30, 1 << 30, 1 << 30, (1 << 30) + 10},
            {2, HIGH, HIGH, 12, 0}, {2, LOW, LOW, 10, 0},
            {2, -1, 5, 6, 0}, {2, 6, -1, 5, 0}, {2, 0, 6, -1, 5}, {2, 5, 0, 6, -1}};
        for (int[] o : others) {
            Check.due("chances of others", x.chances(o[0], o[1], o[2], o[3], o[4]), false);
            for (int draw = 0; draw < 10; draw++) {
                int due = draw < 1 ? 0 : draw < 3 ? 1 : draw < 6 ? 2 : 3;
                Check.due("they stay", drawn(x, 2, draw), due);
            }
        }
    }

    private static void ships() {
        Doc.says(Doc.TERMS, "A SHIP lies in a CELL, has COAL (0 .. 99; at first 20), fires that burn, or are BANKED.");
        ThroughPack x = new ThroughPack(3, 3);
        Check.due("COAL at first", x.of(0, 1), 20);
        Check.due("fires that burn at first", x.of(0, 2), 0);
        x.watch(0, 6, -1);
        Check.due("BANKED", x.of(0, 2), 1);
        Doc.says(Doc.TERMS, "SHIPS 0 (at first in CELL 0) and 1 (there or not; at first not).");
        Check.due("in CELL 0", x.of(0, 0), 0);
        for (int what = 0; what < 4; what++) {
            Check.due("SHIP 1 at first not", x.of(1, what), -1);
        }
        Doc.says(8, "A SHIP is there, in a CELL, with COAL, her fires burning, neither OUT nor NIPPED (cell NONE: "
                + "SHIP 1 isn't there): true.");
        for (int ship = 0; ship < 2; ship++) {
            Check.due("the first CELL, no COAL", x.ship(ship, 0, 0), true);
            Check.due("COAL 0", x.of(ship, 1), 0);
            Check.due("the last CELL, all COAL", x.ship(ship, 8, 99), true);
            Check.due("CELL 8", x.of(ship, 0), 8);
            Check.due("COAL 99", x.of(ship, 1), 99);
            Check.due("BANKED before, burning now", x.of(ship, 2), 0);
        }
        Check.due("SHIP 1 isn't there", x.ship(1, -1, 0), true);
        Check.due("nothing of her", x.of(1, 0), -1);
        Check.due("once more", x.ship(1, -1, 99), true);
        x.mark(1, false, true);
        Check.rule(x, "nips y=1;");
        x.ship(0, 0, 9);
        x.ship(1, 3, 9);
        x.watch(0, 1, 6);
        Check.due("OUT", x.of(0, 3), 1);
        Check.due("NIPPED", x.of(1, 3), 2);
        x.ship(0, 1, 9);
        x.ship(1, 3, 9);
        Check.due("put into an EXIT: not OUT", x.of(0, 3), 0);
        Check.due("not NIPPED", x.of(1, 3), 0);
        Doc.says(8, "False for others.");
        x.ship(0, 5, 55);
        x.ship(1, 6, 66);
        int[][] others = {{2, 0, 0}, {-1, 0, 0}, {HIGH, 0, 0}, {0, 9, 0}, {0, -1, 0}, {0, LOW, 0}, {1, 9, 0}, {1, -2, 0},
            {0, 0, 100}, {0, 0, -1}, {1, 0, 100}, {1, 0, -1}, {1, 0, HIGH}, {2, -1, 0}};
        for (int[] o : others) {
            Check.due("ship of others", x.ship(o[0], o[1], o[2]), false);
            Check.due("SHIP 0 stays", 100 * x.of(0, 0) + x.of(0, 1), 555);
            Check.due("SHIP 1 stays", 100 * x.of(1, 0) + x.of(1, 1), 666);
        }
    }

    private static void costs() {
        Doc.says(9, "COSTS of mooring, holding, raising (0 .. 99 each): true.");
        ThroughPack x = new ThroughPack(3, 3);
        int[][] fit = {{0, 99, 50}, {99, 50, 0}, {50, 0, 99}, {1, 2, 3}};
        for (int[] f : fit) {
            Check.due("costs", x.costs(f[0], f[1], f[2]), true);
            spends(x, f);
        }
        Doc.says(9, "False, changing nothing, for others.");
        int[][] others = {{-1, 0, 0}, {100, 0, 0}, {0, -1, 0}, {0, 100, 0}, {0, 0, -1}, {0, 0, 100}, {LOW, HIGH, 0}};
        for (int[] o : others) {
            Check.due("costs of others", x.costs(o[0], o[1], o[2]), false);
            spends(x, new int[] {1, 2, 3});
        }
    }

    private static void spends(ThroughPack x, int[] due) {
        int[] orders = {4, 5, 7};
        for (int i = 0; i < 3; i++) {
            x.ship(0, 0, 99);
            x.image();
            if (orders[i] == 7) {
                x.watch(0, 6, -1);
            }
            Check.due("order " + orders[i], x.watch(0, orders[i], -1), 1);
            Check.due("COST of " + orders[i], 99 - x.of(0, 1), due[i]);
            x.back();
        }
    }

    private static void wind() {
        Doc.says(10, "THE WIND: true.");
        ThroughPack x = new ThroughPack(3, 3);
        Check.due("the highest", x.wind(3), true);
        Check.due("about(3)", x.about(3), 3);
        Check.due("the lowest", x.wind(0), true);
        Check.due("about(3)", x.about(3), 0);
        Check.due("no WATCH went by", x.about(2), 0);
        x.wind(2);
        Doc.says(10, "False for others.");
        for (int v : new int[] {-1, 4, LOW, HIGH}) {
            Check.due("wind(" + v + ")", x.wind(v), false);
            Check.due("THE WIND stays", x.about(3), 2);
        }
    }

    private static void about() {
        Doc.says(39, "0 W, 1 H, 2 THE WATCH, 3 THE WIND, 4 TEXTS, 5 THE TEXT (NONE), 6 n, 7 m, 8 HOME, 9 LOOKS, 10 bytes "
                + "of the tape, 11 EDGE.");
        ThroughPack x = new ThroughPack(3, 6);
        int[] first = {3, 6, 0, 0, 0, -1, 0, 0, 0, 0, 0, 0};
        for (int what = 0; what < 12; what++) {
            Check.due("about(" + what + ") at first", x.about(what), first[what]);
        }
        for (int i = 0; i < 99; i++) {
            x.watch(3, -1, -1);
        }
        for (int i = 0; i < 4; i++) {
            Check.read(x, "");
        }
        x.by(3);
        x.ahead(11, 0);
        x.order(11, 0);
        x.home(17);
        for (int i = 0; i < 30; i++) {
            x.look(0, 0);
        }
        for (int i = 0; i < 15; i++) {
            x.feed(0, 0, 0, 0, 0);
        }
        x.edge(99);
        int[] most = {3, 6, 99, 3, 4, 3, 12, 12, 17, 30, 300, 99};
        for (int what = 0; what < 12; what++) {
            Check.due("about(" + what + ") at most", x.about(what), most[what]);
        }
    }

    private static void aboutOthers() {
        Doc.says(39, "-2 for others.");
        ThroughPack x = new ThroughPack(3, 3);
        for (int what : new int[] {-1, 12, 13, -2, LOW, HIGH}) {
            Check.due("about(" + what + ")", x.about(what), -2);
        }
    }
}
