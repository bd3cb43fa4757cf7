/** Edges of promises 30 and 31: the surest way, its worth, leads. */
final class OddsEdges {
    private static final int LOW = Integer.MIN_VALUE;
    private static final int HIGH = Integer.MAX_VALUE;

    private OddsEdges() { }

    static void all() {
        surest();
        surestTenths();
        surestOrders();
        worth();
        surestEnds();
        leads();
        leadsExits();
        leadsNone();
    }

    private static ThroughPack sea(int cell, int coal) {
        ThroughPack x = new ThroughPack(3, 3);
        x.ship(0, cell, coal);
        return x;
    }

    private static void sure(ThroughPack x, int n, int chance, int order, int worth) {
        Check.due("chance by " + n, x.surest(n, 0), chance);
        Check.due("ORDER by " + n, x.surest(n, 1), order);
        Check.due("WORTH by " + n, x.surest(n, 2), worth);
    }

    private static void surest() {
        Doc.says(Doc.TERMS, "SUREST by n WATCHES (1 .. 3): the best chance, of 10 to the n, to be OUT by then and never "
                + "NIPPED,");
        ThroughPack x = sea(0, 20);
        x.mark(1, false, true);
        sure(x, 1, 10, 1, 0);
        sure(x, 2, 100, 1, 0);
        x = sea(0, 20);
        x.mark(2, false, true);
        sure(x, 1, 0, 1, 0);
        sure(x, 2, 100, 1, 0);
        x = sea(0, 20);
        x.mark(5, false, true);
        sure(x, 2, 0, 1, 0);
        sure(x, 3, 1000, 1, 0);
        x = sea(0, 20);
        x.mark(8, false, true);
        sure(x, 3, 0, 1, 0);
        x = sea(0, 3);
        x.mark(5, false, true);
        sure(x, 3, 1000, 1, 0);
        x.ship(0, 0, 2);
        sure(x, 3, 0, 1, 0);
        x.ship(0, 0, 0);
        sure(x, 3, 0, 6, 0);
        x.ship(0, 0, 20);
        Check.rule(x, "may 1=1;nips y=1;");
        sure(x, 3, 1000, 1, 0);
        x.by(Check.read(x, "may 1=1;nips y=0;"));
        sure(x, 3, 1000, 2, 0);
        x.by(Check.read(x, "may 1=1;nips x=1 or y=1;"));
        sure(x, 3, 0, 1, 0);
    }

    private static void surestTenths() {
        Doc.says(Doc.TERMS, "ORDERS being given as THE WIND of each WATCH ahead is known, the one to come by its CHANCES; the "
                + "lowest ORDER that begins it.");
        ThroughPack x = sea(0, 20);
        x.mark(1, false, true);
        x.chances(0, 9, 1, 0, 0);
        Check.rule(x, "may watch>0;nips wind=1;");
        sure(x, 1, 0, 4, 0);
        sure(x, 2, 90, 4, 0);
        sure(x, 3, 900, 4, 0);
        x.chances(0, 1, 9, 0, 0);
        sure(x, 2, 10, 4, 0);
        x.chances(0, 0, 10, 0, 0);
        sure(x, 2, 0, 4, 0);
        // Open behind wind 0 alone: she is OUT as soon as one of the winds is 0.
        x.by(Check.read(x, "may wind=0 and watch>0;"));
        x.chances(0, 3, 7, 0, 0);
        x.chances(1, 4, 6, 0, 0);
        sure(x, 2, 30, 4, 0);
        sure(x, 3, 300 + 7 * 4 * 10, 4, 0);
        x.wind(1);
        sure(x, 2, 40, 4, 0);
        sure(x, 3, 400 + 6 * 4 * 10, 4, 0);
        x.ship(0, 0, 2);
        x.costs(1, 1, 1);
        // COAL for one WATCH of waiting; for two she must bank at once, which she would if she knew: 6 * 4 of 100.
        sure(x, 3, 400, 4, 240);
        x.costs(2, 1, 1);
        sure(x, 3, 400, 5, 240);
        x.costs(2, 2, 1);
        // Bank, raise, push: the second WIND must be 0, 4 * 3 and 6 * 4 of 100, and no knowledge helps.
        sure(x, 3, 360, 6, 0);
    }

    /** Every order that may be the best one to begin with, and every row of two winds. */
    private static void surestOrders() {
        int[] exits = {1, 5, 7, 3};
        for (int order = 0; order < 4; order++) {
            ThroughPack x = sea(4, 20);
            x.mark(exits[order], false, true);
            sure(x, 1, 10, order, 0);
            x.ice(exits[order], 31);
            sure(x, 1, 0, order == 0 ? 1 : 0, 0);
        }
        ThroughPack banked = sea(0, 20);
        banked.mark(1, false, true);
        banked.watch(0, 6, -1);
        sure(banked, 1, 0, 6, 0);
        sure(banked, 2, 100, 7, 0);
        sure(banked, 3, 1000, 6, 0);
        for (int v = 0; v < 4; v++) {
            for (int u = 0; u < 4; u++) {
                ThroughPack x = sea(0, 20);
                x.mark(1, false, true);
                int from = (v + 1) % 4;
                x.wind(from);
                certain(x, from, v);
                certain(x, v, u);
                Check.rule(x, "may watch=2 and wind=" + u + ";");
                sure(x, 3, 1000, 4, 0);
                x.by(Check.read(x, "may watch=1 and wind=" + v + ";"));
                sure(x, 3, 1000, 4, 0);
                sure(x, 2, 100, 4, 0);
                x.by(Check.read(x, "may watch=2;nips watch=1 and wind=" + u + ";"));
                sure(x, 3, 0, 4, 0);
                x.by(Check.read(x, "may watch=2;nips watch=1 and wind#" + u + ";"));
                sure(x, 3, 1000, 4, 0);
            }
        }
    }

    private static void certain(ThroughPack x, int from, int to) {
        x.chances(from, to == 0 ? 10 : 0, to == 1 ? 10 : 0, to == 2 ? 10 : 0, to == 3 ? 10 : 0);
    }

    private static void worth() {
        Doc.says(Doc.TERMS, "WORTH: by how much of 10 to the n more she is OUT, if all n WINDS were known ahead.");
        // By wind 1 she is carried to the right, where the way down is open behind it; by wind 0 it is where she was.
        ThroughPack x = sea(0, 20);
        x.drift(0, 1, 0);
        x.drift(1, 1, 0);
        x.mark(3, false, true);
        x.mark(4, false, true);
        x.chances(0, 5, 5, 0, 0);
        Check.rule(x, "may watch=1 and wind=0 and x=0 and y=1;may watch=1 and wind=1 and x=1 and y=1;");
        sure(x, 1, 0, 4, 0);
        // Holding fits wind 0, drifting wind 1.
        sure(x, 2, 50, 4, 50);
        x.chances(0, 9, 1, 0, 0);
        sure(x, 2, 90, 5, 10);
        x.chances(0, 10, 0, 0, 0);
        sure(x, 2, 100, 5, 0);
        x.chances(0, 0, 10, 0, 0);
        sure(x, 2, 100, 4, 0);
        x.chances(0, 1, 1, 8, 0);
        sure(x, 2, 10, 4, 10);
        x.chances(0, 1, 1, 8, 0);
        sure(x, 3, 100, 4, 100);
    }

    private static void surestEnds() {
        Doc.says(30, "SUREST by n: 0 the chance (all, if she is OUT; 0, if she is NIPPED), 1 the ORDER (NONE, if she is OUT "
                + "or NIPPED), 2 WORTH.");
        ThroughPack x = sea(0, 20);
        x.mark(1, false, true);
        x.image();
        x.watch(0, 1, -1);
        sure(x, 1, 10, -1, 0);
        sure(x, 2, 100, -1, 0);
        sure(x, 3, 1000, -1, 0);
        x.back();
        Check.rule(x, "nips 1=1;");
        x.watch(0, 5, -1);
        x.by(-1);
        sure(x, 1, 0, -1, 0);
        sure(x, 2, 0, -1, 0);
        sure(x, 3, 0, -1, 0);
        Doc.says(30, "NONE for others.");
        for (int fate = 0; fate < 2; fate++) {
            for (int n : new int[] {0, 4, -1, LOW, HIGH}) {
                Check.due("surest(" + n + ", 0)", x.surest(n, 0), -1);
            }
            for (int what : new int[] {-1, 3, LOW, HIGH}) {
                Check.due("surest(1, " + what + ")", x.surest(1, what), -1);
            }
            x.back();
        }
    }

    private static void leads() {
        Doc.says(Doc.TERMS, "LEADS: CELLS to which she can come by pushes alone in ICE as it is (without COST,");
        Doc.says(31, "LEADS: how many CELLS (cell NONE; her own counts), the fewest pushes to one.");
        ThroughPack x = new ThroughPack(6, 6);
        Check.due("all 36", x.leads(-1), 36);
        Check.due("the farthest", x.leads(35), 10);
        Check.due("her own", x.leads(0), 0);
        x.ship(0, 0, 0);
        Check.due("without COAL", x.leads(35), 10);
        Check.rule(x, "cost 99;");
        Check.due("whatever the COST", x.leads(-1), 36);
        x.by(-1);
        x.ice(0, 99);
        Check.due("her own counts, whatever its ICE", x.leads(-1), 36);
        x.ice(1, 30);
        x.ice(6, 31);
        Check.due("30", x.leads(1), 1);
        Check.due("31", x.leads(6), -1);
        Check.due("all but one", x.leads(-1), 35);
        x.ice(1, 31);
        Check.due("her own alone", x.leads(-1), 1);
        Check.due("her own", x.leads(0), 0);
        x.drift(0, 1, 0);
        x.many(5, 0);
        Check.due("ICE as it is: no WIND helps", x.leads(-1), 1);
        Check.rule(x, "may thick=31;");
        Check.due("by a may clause", x.leads(-1), 3);
        Check.rule(x, "may thick=31;may x=y and thick=0;");
        Check.due("by two of them", x.leads(-1), 4);
        Check.due("the fewest pushes", x.leads(7), 2);
        Doc.says(Doc.TERMS, "and she needs no fires: how many; the fewest pushes to one.");
        x.watch(0, 6, -1);
        Check.due("BANKED", x.of(0, 2), 1);
        x.by(-1);
        x.ship(0, 3, 0);
        for (int c = 0; c < 36; c++) {
            x.ice(c, c % 6 == 3 || c > 29 ? 0 : 40);
        }
        x.watch(1, 6, -1);
        Check.due("BANKED, without COAL", x.leads(-1), 11);
        Check.due("to a corner", x.leads(30), 8);
    }

    private static void leadsExits() {
        Doc.says(Doc.TERMS, "EXITS too, but not on from there),");
        ThroughPack x = sea(0, 20);
        x.mark(1, false, true);
        x.mark(3, false, true);
        Check.due("two EXITS and her own", x.leads(-1), 3);
        Check.due("an EXIT", x.leads(1), 1);
        Check.due("behind it", x.leads(2), -1);
        x.mark(3, false, false);
        Check.due("around the one", x.leads(2), 6 - 2);
        Check.due("all", x.leads(-1), 9);
        x.ship(0, 1, 20);
        Check.due("she lies in it and isn't OUT: she can push on", x.leads(-1), 9);
        x.ship(0, 0, 20);
        x.watch(0, 1, -1);
        Check.due("OUT", x.of(0, 3), 1);
        Check.due("OUT: her own alone", x.leads(-1), 1);
        Check.due("OUT: her own", x.leads(1), 0);
    }

    private static void leadsNone() {
        Doc.says(31, "NONE: none, and for others.");
        ThroughPack x = sea(8, 20);
        for (int cell : new int[] {-2, 9, LOW, HIGH}) {
            Check.due("leads(" + cell + ")", x.leads(cell), -1);
        }
        x.ice(5, 31);
        x.ice(7, 31);
        for (int cell = 0; cell < 9; cell++) {
            Check.due("leads(" + cell + ")", x.leads(cell), cell == 8 ? 0 : -1);
        }
    }
}
