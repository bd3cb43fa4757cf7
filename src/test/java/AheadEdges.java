/** Edges of promises 19 to 24: winds ahead, soonest, least, told orders. */
final class AheadEdges {
    private static final int LOW = Integer.MIN_VALUE;
    private static final int HIGH = Integer.MAX_VALUE;

    private AheadEdges() { }

    static void all() {
        winds();
        many();
        shipZeroAlone();
        fewest();
        neverNipped();
        mostCoal();
        soonestNone();
        least();
        leastNone();
        order();
        told();
        toldEnds();
    }

    private static ThroughPack sea(int cell, int coal) {
        ThroughPack x = new ThroughPack(3, 3);
        x.ship(0, cell, coal);
        return x;
    }

    private static void calm(ThroughPack x, int n) {
        Check.due("n winds 0", x.many(n, 0), true);
    }

    private static void winds() {
        Doc.says(Doc.TERMS, "WINDS AHEAD 0 .. 11 (told; at first 0) and how many of them are told (n: 0 .. 12; at first "
                + "0).");
        ThroughPack x = sea(0, 20);
        Check.due("n at first", x.about(6), 0);
        x.drift(0, 1, 0);
        x.drift(1, 0, 1);
        Check.due("the third alone is told", x.ahead(2, 1), 3);
        x.many(3, 3);
        Check.due("the first is 0", x.told(0), 1);
        Check.due("the second is 0", x.told(1), 2);
        Check.due("the third is 1", x.told(2), 5);
        x.many(0, 0);
        x.many(3, 3);
        Check.due("it stays told", x.told(2), 5);
        Doc.says(19, "A WIND AHEAD; n becomes k + 1 if it is less: n.");
        x.many(0, 0);
        Check.due("the first", x.ahead(0, 3), 1);
        Check.due("the last", x.ahead(11, 0), 12);
        Check.due("n stays", x.ahead(0, 0), 12);
        x.many(5, 0);
        Check.due("n is k + 1", x.ahead(4, 1), 5);
        Check.due("n is k", x.ahead(5, 1), 6);
        Check.due("n is more", x.ahead(3, 1), 6);
        Check.due("m is as it was", x.about(7), 0);
        Doc.says(19, "NONE for others.");
        int[][] others = {{-1, 0}, {12, 0}, {LOW, 0}, {HIGH, 0}, {7, -1}, {7, 4}, {7, LOW}, {7, HIGH}};
        for (int[] o : others) {
            Check.due("ahead(" + o[0] + ", " + o[1] + ")", x.ahead(o[0], o[1]), -1);
            Check.due("n stays", x.about(6), 6);
        }
    }

    private static void many() {
        Doc.says(20, "n and m are so many (0 .. 12, m no more than n): true.");
        ThroughPack x = sea(0, 20);
        int[][] fit = {{12, 12}, {12, 0}, {1, 1}, {5, 3}, {0, 0}, {7, 7}};
        for (int[] f : fit) {
            Check.due("many", x.many(f[0], f[1]), true);
            Check.due("n", x.about(6), f[0]);
            Check.due("m", x.about(7), f[1]);
        }
        Doc.says(20, "False for others.");
        int[][] others = {{13, 0}, {13, 13}, {12, 13}, {-1, 0}, {-1, -1}, {0, 1}, {5, 6}, {5, -1}, {HIGH, 0}, {LOW, LOW}};
        for (int[] o : others) {
            Check.due("many(" + o[0] + ", " + o[1] + ")", x.many(o[0], o[1]), false);
            Check.due("n and m stay", 100 * x.about(6) + x.about(7), 707);
        }
    }

    private static int[] plans(ThroughPack x) {
        return new int[] {x.soonest(0), x.soonest(1), x.soonest(10), x.soonest(11), x.least(), x.told(-1), x.told(0),
            x.last(), x.walk(0), x.leave(), x.winter(0), x.winter(1), x.surest(3, 0), x.surest(3, 1), x.surest(3, 2),
            x.leads(-1), x.leads(8)};
    }

    private static ThroughPack planning() {
        ThroughPack x = sea(0, 9);
        x.mark(2, false, true);
        x.mark(4, true, true);
        x.ice(3, 12);
        x.ice(4, 12);
        x.drift(1, 1, 0);
        x.chances(0, 5, 5, 0, 0);
        Check.rule(x, "may thick<20;nips x=2 and wind=1;");
        Check.ahead(x, 0, 1, 0, 0);
        Check.orders(x, 2, 4);
        return x;
    }

    private static void shipZeroAlone() {
        Doc.says(Doc.TERMS, "All of III is of SHIP 0 alone, from now on, and changes nothing.");
        int[] alone = plans(planning());
        for (int cell = 0; cell < 9; cell++) {
            ThroughPack x = planning();
            x.ship(1, cell, 20);
            int[] both = plans(x);
            for (int i = 0; i < alone.length; i++) {
                Check.due("plan " + i + " with SHIP 1 in " + cell, both[i], alone[i]);
            }
        }
        ThroughPack x = planning();
        x.ship(1, 3, 20);
        String before = Whole.of(x);
        Check.due("changes nothing", Whole.of(x).equals(before), true);
        x = sea(0, 9);
        x.mark(2, false, true);
        calm(x, 2);
        Check.rule(x, "may watch=3 or watch=4;");
        Check.due("by THE WATCH that is 0", x.soonest(0), -1);
        for (int i = 0; i < 3; i++) {
            x.watch(0, -1, -1);
        }
        Check.due("from now on: THE WATCH is 3", x.soonest(0), 2);
        x.watch(0, -1, -1);
        Check.due("THE WATCH is 4", x.soonest(0), -1);
    }

    private static void fewest() {
        Doc.says(Doc.TERMS, "SOONEST: by WINDS AHEAD the fewest WATCHES by which she can be OUT, never NIPPED;");
        Doc.says(21, "SOONEST: 0 WATCHES, 1 COAL, 10 + k: the k-th ORDER.");
        ThroughPack x = sea(0, 20);
        x.mark(1, false, true);
        Check.rule(x, "may watch>=11;");
        calm(x, 12);
        Check.due("by the last of twelve", x.soonest(0), 12);
        Check.due("ten times banked, raised for 3, pushed for 1", x.soonest(1), 16);
        for (int k = 0; k < 12; k++) {
            Check.due("ORDER " + k, x.soonest(10 + k), k < 10 ? 6 : k == 10 ? 7 : 1);
        }
        Check.due("the 13th", x.soonest(22), -1);
        calm(x, 11);
        Check.due("eleven are too few", x.soonest(0), -1);
        calm(x, 12);
        x.ship(0, 0, 4);
        Check.due("by 4 of COAL", x.soonest(0), 12);
        Check.due("none is left", x.soonest(1), 0);
        x.ship(0, 0, 3);
        Check.due("3 is too little", x.soonest(0), -1);
        x.ship(0, 0, 20);
        x.by(-1);
        calm(x, 1);
        Check.due("by the first of one", x.soonest(0), 1);
        Check.due("the ORDER", x.soonest(10), 1);
        Check.due("there is no second", x.soonest(11), -1);
        calm(x, 12);
        Check.due("by the first of twelve", x.soonest(0), 1);
        x.drift(0, 1, 0);
        Check.rule(x, "may 1=2;");
        Check.due("a DRIFT doesn't let her OUT", x.soonest(0), -1);
    }

    private static void neverNipped() {
        ThroughPack x = sea(0, 20);
        x.mark(2, false, true);
        calm(x, 4);
        Check.rule(x, "nips y=0 and x>0;");
        Check.due("around what nips; the EXIT's own doesn't matter", x.soonest(0), 4);
        int[] orders = {2, 1, 1, 0};
        for (int k = 0; k < 4; k++) {
            Check.due("ORDER " + k, x.soonest(10 + k), orders[k]);
        }
        calm(x, 3);
        Check.due("not in three", x.soonest(0), -1);
        Check.rule(x, "nips x>0;");
        calm(x, 12);
        Check.due("no way around", x.soonest(0), -1);
    }

    private static void mostCoal() {
        Doc.says(Doc.TERMS, "of these most COAL left;");
        ThroughPack x = sea(0, 20);
        x.mark(4, false, true);
        calm(x, 4);
        x.ice(1, 10);
        x.ice(3, 9);
        Check.due("of two ways", x.soonest(1), 18);
        Check.due("the cheaper one", x.soonest(10), 2);
        Check.due("then right", x.soonest(11), 1);
        x.ship(0, 0, 2);
        Check.due("none left", x.soonest(1), 0);
        Doc.says(Doc.TERMS, "of like ones the lowest ORDERS, the first one first.");
        x.ice(3, 19);
        x.ship(0, 0, 20);
        Check.due("alike", x.soonest(1), 17);
        Check.due("the lower first", x.soonest(10), 1);
        Check.due("though the second is higher", x.soonest(11), 2);
        x = sea(8, 20);
        x.mark(0, false, true);
        calm(x, 4);
        int[] orders = {0, 0, 3, 3};
        for (int k = 0; k < 4; k++) {
            Check.due("ORDER " + k, x.soonest(10 + k), orders[k]);
        }
        Check.rule(x, "may watch#0;cost 0;");
        x.costs(0, 0, 0);
        calm(x, 5);
        Check.due("waiting for nothing: mooring is the lowest", x.soonest(10), 4);
        x.costs(1, 0, 0);
        Check.due("holding is", x.soonest(10), 5);
        Check.due("all is left", x.soonest(1), 20);
    }

    private static void soonestNone() {
        Doc.says(21, "NONE: she can't be (or is OUT or NIPPED), none such, and for others.");
        ThroughPack x = sea(0, 20);
        x.mark(1, false, true);
        for (int what : new int[] {0, 1, 10}) {
            Check.due("without winds", x.soonest(what), -1);
        }
        calm(x, 2);
        int[] others = {-1, 2, 3, 9, 11, 12, 21, 22, 23, LOW, HIGH};
        for (int what : others) {
            Check.due("soonest(" + what + ")", x.soonest(what), -1);
        }
        x.image();
        x.mark(2, false, true);
        x.watch(0, 1, -1);
        for (int what : new int[] {0, 1, 10}) {
            Check.due("OUT", x.soonest(what), -1);
        }
        Check.due("least of her", x.least(), -1);
        x.back();
        Check.rule(x, "nips watch=0;");
        x.watch(0, 5, -1);
        for (int what : new int[] {0, 1, 10}) {
            Check.due("NIPPED", x.soonest(what), -1);
        }
        Doc.says(22, "NONE: none (also as she is OUT or NIPPED).");
        Check.due("NIPPED", x.least(), -1);
        x.back();
        x.watch(0, 1, -1);
        Check.due("OUT", x.least(), -1);
        x.back();
        x.mark(1, false, false);
        Check.due("no EXIT", x.least(), -1);
    }

    private static void least() {
        Doc.says(Doc.TERMS, "LEAST: the least COAL (0 .. 99, in place of hers) by which she can be OUT by WINDS AHEAD.");
        Doc.says(22, "LEAST.");
        String[] costs = {"0", "1", "49", "49+x/2", "50", "99*(x-1)", "99*(2-x)", "100*(x-1)"};
        int[] due = {0, 2, 98, 99, -1, 99, 99, 99};
        for (int i = 0; i < costs.length; i++) {
            for (int coal = 0; coal <= 99; coal += 33) {
                ThroughPack x = sea(0, coal);
                x.mark(2, false, true);
                calm(x, 2);
                Check.rule(x, "may y=0;cost " + costs[i] + ";");
                Check.due("cost " + costs[i] + " by " + coal, x.least(), due[i]);
            }
        }
    }

    private static void leastNone() {
        ThroughPack x = sea(0, 0);
        x.mark(1, false, true);
        Check.due("no winds", x.least(), -1);
        x.watch(0, 6, -1);
        calm(x, 1);
        Check.due("BANKED: one WATCH is too few", x.least(), -1);
        calm(x, 2);
        Check.due("raise and push", x.least(), 4);
        x.ship(0, 0, 99);
        x.ice(1, 40);
        x.drift(1, 0, 1);
        Check.ahead(x, 1, 0);
        Check.due("hold for 2, push for 1", x.least(), 3);
        x.by(Check.read(x, "nips 1=1;"));
        Check.due("NIPPED whatever her COAL", x.least(), -1);
    }

    private static void order() {
        Doc.says(23, "A TOLD ORDER; m becomes k + 1 if it is less: m.");
        ThroughPack x = sea(0, 20);
        Doc.says(23, "NONE for others (k 0 .. n - 1).");
        Check.due("n is 0", x.order(0, 4), -1);
        calm(x, 1);
        Check.due("n is 1", x.order(1, 4), -1);
        Check.due("the first", x.order(0, 4), 1);
        calm(x, 12);
        Check.due("the last", x.order(11, 7), 12);
        Check.due("m is more", x.order(0, 0), 12);
        x.many(12, 5);
        Check.due("m is k + 1", x.order(4, 1), 5);
        Check.due("m is k", x.order(5, 1), 6);
        Check.due("m is less by far", x.order(8, 1), 9);
        Check.due("n is as it was", x.about(6), 12);
        int[][] others = {{-1, 0}, {12, 0}, {LOW, 0}, {HIGH, 0}, {3, -1}, {3, 8}, {3, LOW}, {3, HIGH}};
        for (int[] o : others) {
            Check.due("order(" + o[0] + ", " + o[1] + ")", x.order(o[0], o[1]), -1);
            Check.due("m stays", x.about(7), 9);
        }
        x.many(5, 2);
        Check.due("k is n", x.order(5, 0), -1);
        Check.due("k is n - 1", x.order(4, 0), 5);
    }

    private static void told() {
        Doc.says(Doc.TERMS, "TOLD ORDERS 0 .. 11 (at first 4) and how many (m: 0 .. n): her CELL behind each by WINDS "
                + "AHEAD, as long as each can be done and she isn't NIPPED nor OUT;");
        Doc.says(24, "TOLD ORDERS: her CELL behind the k-th (k NONE: behind how many she still goes on, all of them or those "
                + "ahead of the first that ends it).");
        ThroughPack x = sea(0, 20);
        Check.due("m at first", x.about(7), 0);
        Check.due("none told", x.told(-1), 0);
        x.drift(0, 1, 0);
        x.many(12, 12);
        Check.due("all twelve, moored at first", x.told(-1), 12);
        Check.due("behind the first", x.told(0), 1);
        Check.due("behind the last", x.told(11), 2);
        x.ship(0, 0, 12);
        Check.due("twelve by 12 of COAL", x.told(-1), 12);
        x.ship(0, 0, 11);
        Check.due("by 11", x.told(-1), 11);
        Check.due("the one that can't be", x.told(11), -1);
        Check.due("the one ahead of it", x.told(10), 2);
        x.order(2, 6);
        Check.due("BANKED she can't moor", x.told(-1), 3);
        x.order(3, 7);
        Check.due("raised she can: 11 less 2 less 3", x.told(-1), 10);
        x.order(0, 5);
        Check.due("held", x.told(0), 0);
        Check.due("then drifted", x.told(1), 1);
        x.order(1, 2);
        Check.due("pushed", x.told(1), 3);
        x.order(0, 0);
        Check.due("the very first can't be", x.told(-1), 0);
        for (int k = 0; k < 12; k++) {
            Check.due("behind such a one", x.told(k), -1);
        }
    }

    private static void toldEnds() {
        Doc.says(Doc.TERMS, "the first that can't be done, or behind which she is NIPPED or OUT.");
        Doc.says(24, "NONE for others, and behind such a one.");
        ThroughPack x = sea(0, 20);
        calm(x, 4);
        Check.orders(x, 1, 1, 3);
        for (int k : new int[] {-2, 3, 4, 11, 12, LOW, HIGH}) {
            Check.due("told(" + k + ")", x.told(k), -1);
        }
        Check.due("all", x.told(-1), 3);
        x.image();
        x.mark(2, false, true);
        Check.due("OUT behind the second", x.told(-1), 1);
        Check.due("ahead of it", x.told(0), 1);
        Check.due("it", x.told(1), -1);
        Check.due("and behind it", x.told(2), -1);
        x.drift(1, 1, 0);
        x.ahead(1, 1);
        x.order(1, 4);
        Check.due("a DRIFT into the EXIT ends nothing", x.told(-1), 3);
        Check.due("she lies in it", x.told(1), 2);
        Check.due("and pushes on", x.told(2), 1);
        x.back();
        Check.rule(x, "nips x=2;");
        Check.due("NIPPED behind the second", x.told(-1), 1);
        Check.due("it", x.told(1), -1);
        x.by(Check.read(x, "nips watch=2;"));
        Check.due("NIPPED behind the last", x.told(-1), 2);
        Check.due("ahead of it", x.told(1), 2);
        Check.due("it", x.told(2), -1);
        x.by(Check.read(x, "nips watch=3;"));
        Check.due("not by what comes behind", x.told(-1), 3);
        x.by(Check.read(x, "nips watch=0;"));
        x.watch(0, 5, -1);
        x.by(-1);
        Check.due("NIPPED as it is", x.of(0, 3), 2);
        Check.due("she goes on behind none", x.told(-1), 0);
        Check.due("no CELL", x.told(0), -1);
        x.back();
        x.mark(3, false, true);
        x.watch(0, 2, -1);
        Check.due("OUT as it is", x.told(-1), 0);
        Check.due("no CELL", x.told(0), -1);
    }
}
