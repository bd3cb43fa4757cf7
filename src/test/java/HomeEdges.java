/** Edges of promises 26 to 29: the last watch to turn, walkers, when to leave, where to winter. */
final class HomeEdges {
    private static final int LOW = Integer.MIN_VALUE;
    private static final int HIGH = Integer.MAX_VALUE;

    private HomeEdges() { }

    static void all() {
        last();
        lastAtHome();
        lastNone();
        walkOver();
        walkByDrift();
        walkThere();
        walkNone();
        leave();
        leaveNone();
        winter();
        winterOthers();
    }

    private static ThroughPack sea(int cell, int coal) {
        ThroughPack x = new ThroughPack(3, 3);
        x.ship(0, cell, coal);
        return x;
    }

    private static void last() {
        Doc.says(Doc.TERMS, "HOME (a CELL; at first 0):");
        Doc.says(Doc.TERMS, "LAST: the greatest k (0 .. m) so that behind the first k TOLD ORDERS (all done, neither OUT nor "
                + "NIPPED) she can be in HOME behind some WATCH from then on (or is), never NIPPED nor OUT, by WINDS AHEAD.");
        Doc.says(26, "LAST.");
        ThroughPack x = sea(0, 20);
        Check.due("HOME is 0, she is there, nothing is told", x.last(), 0);
        x.many(4, 0);
        Check.orders(x, 1, 1, 2, 2);
        Check.due("two out and two back", x.last(), 2);
        x.many(5, 4);
        Check.due("three need three: two are left", x.last(), 2);
        x.many(6, 4);
        Check.due("three out and three back", x.last(), 3);
        x.many(8, 4);
        Check.due("all four", x.last(), 4);
        x.ship(0, 0, 8);
        Check.due("by 8 of COAL", x.last(), 4);
        x.ship(0, 0, 7);
        Check.due("by 7 the fourth can't come back", x.last(), 3);
        x.ship(0, 0, 0);
        Check.due("without COAL: none is done, but she is there", x.last(), 0);
        x.ship(0, 0, 20);
        x.many(4, 4);
        x.home(8);
        Check.due("she is there behind the last WATCH", x.last(), 4);
        x.many(12, 12);
        Check.due("moored there to the last of twelve", x.last(), 12);
        x.mark(4, false, true);
        x.home(1);
        x.many(8, 4);
        Check.due("an EXIT in the way is gone around", x.last(), 4);
        Check.rule(x, "nips y=1 and watch>3;");
        Check.due("the fourth would bring her back through what nips", x.last(), 3);
        x.by(Check.read(x, "nips y=1 and watch>1;"));
        Check.due("the third nips her", x.last(), 2);
    }

    private static void lastAtHome() {
        ThroughPack x = sea(0, 20);
        x.home(1);
        x.many(2, 0);
        Check.due("it is beside her", x.last(), 0);
        Check.rule(x, "nips x=1;");
        Check.due("NIPPED as she comes there", x.last(), -1);
        x.by(Check.read(x, "nips x=1 and watch=1;"));
        Check.due("NIPPED there later: she was in it", x.last(), 0);
        x.by(-1);
        x.mark(1, false, true);
        Check.due("a push there lets her OUT", x.last(), -1);
        x.drift(1, 1, 0);
        Check.ahead(x, 1);
        Check.due("a DRIFT doesn't", x.last(), 0);
        x.ship(0, 0, 0);
        Check.due("BANKED, without COAL", x.last(), 0);
        x.ship(0, 1, 0);
        Check.rule(x, "nips 1=1;");
        Check.due("she is there, though it is an EXIT and all nips", x.last(), 0);
    }

    private static void lastNone() {
        Doc.says(26, "NONE: none.");
        ThroughPack x = sea(4, 20);
        Check.due("no winds, not there", x.last(), -1);
        x.many(1, 0);
        Check.due("two pushes off, one WATCH", x.last(), -1);
        x.many(2, 0);
        Check.due("two WATCHES", x.last(), 0);
        x.ship(0, 4, 1);
        Check.due("COAL for one", x.last(), -1);
        x.ship(0, 4, 2);
        Check.due("COAL for two", x.last(), 0);
        x.home(5);
        x.mark(5, false, true);
        x.watch(0, 1, -1);
        Check.due("OUT, though in HOME", x.last(), -1);
        x.ship(0, 5, 9);
        Check.due("in HOME and not OUT", x.last(), 0);
        Check.rule(x, "nips watch=1;");
        x.watch(0, 5, -1);
        x.by(-1);
        Check.due("NIPPED, though in HOME", x.last(), -1);
    }

    private static void walkOver() {
        Doc.says(Doc.TERMS, "WALKERS leave her CELL behind k TOLD ORDERS: in each WATCH they stay, or go to a CELL beside "
                + "(ORDERS 0 .. 3) if a walk clause is so for it (without any: its ICE is 10 or more), as the WATCH begins;");
        Doc.says(27, "WALKERS behind k TOLD ORDERS: how many WATCHES (k 0 .. m).");
        int[] beside = {1, 5, 7, 3};
        for (int to : beside) {
            for (int ice = 9; ice <= 10; ice++) {
                ThroughPack x = sea(4, 9);
                x.many(1, 0);
                x.mark(to, true, true);
                x.ice(to, ice);
                Check.due("to " + to + " over " + ice, x.walk(0), ice == 10 ? 1 : -1);
            }
        }
        ThroughPack x = sea(4, 9);
        for (int c = 0; c < 9; c++) {
            x.ice(c, 99);
        }
        x.mark(0, true, true);
        x.many(1, 0);
        Check.due("not aslant", x.walk(0), -1);
        x.many(2, 0);
        Check.due("in two", x.walk(0), 2);
        x.ship(0, 2, 9);
        Check.due("not over the edge", x.walk(0), 2);
        Check.rule(x, "walk thick=98;walk thick=97;");
        Check.due("no walk clause is so", x.walk(0), -1);
        x.ice(1, 97);
        x.ice(0, 98);
        Check.due("one of them, then the other", x.walk(0), 2);
        x.ice(1, 5);
        x.ice(0, 5);
        x.by(Check.read(x, "may 1=2;walk thick=5;"));
        Check.due("thin, but a clause is so", x.walk(0), 2);
        x.by(Check.read(x, "may 1=2;nips 1=1;"));
        Check.due("a TEXT without any", x.walk(0), -1);
        x.ice(1, 10);
        x.ice(0, 10);
        Check.due("10; what may be pushed and what nips don't matter", x.walk(0), 2);
    }

    private static void walkByDrift() {
        Doc.says(Doc.TERMS, "then they go by the DRIFT (if that is a CELL), unless they are on SHORE.");
        ThroughPack x = sea(3, 9);
        x.drift(1, 0, -1);
        x.drift(2, 1, 0);
        x.mark(0, true, true);
        Check.ahead(x, 1);
        Check.due("they stay and are carried there", x.walk(0), 1);
        x.mark(0, true, false);
        x.mark(1, true, true);
        x.ice(4, 10);
        Check.due("they go beside and are carried there", x.walk(0), 1);
        x.ice(4, 9);
        Check.due("its ICE as the WATCH begins", x.walk(0), -1);
        x.ship(0, 1, 9);
        x.mark(1, true, false);
        x.mark(0, true, true);
        x.ice(3, 10);
        Check.due("no ICE leads there yet", x.walk(0), -1);
        Check.ahead(x, 1, 1);
        Check.due("no CELL above: they wait at the edge for what comes", x.walk(0), 2);
        x.ship(0, 6, 9);
        x.mark(0, true, false);
        x.mark(7, true, true);
        x.ice(7, 10);
        Check.ahead(x, 1);
        Check.due("on SHORE no DRIFT takes them", x.walk(0), 1);
        x.mark(7, true, false);
        x.mark(8, true, true);
        x.ice(7, 9);
        Check.ahead(x, 2, 2);
        Check.due("carried twice", x.walk(0), 2);
        x.ice(7, 10);
        Check.due("over the ICE and carried: one WATCH", x.walk(0), 1);
        x.ship(0, 2, 9);
        x.mark(8, true, false);
        x.mark(5, true, true);
        x.ice(4, 10);
        Check.due("ice comes into the SHORE for the second WATCH; they wait at the edge", x.walk(0), 2);
    }

    private static void walkThere() {
        Doc.says(Doc.TERMS, "They are there as soon as they are on SHORE (as they leave her, too).");
        ThroughPack x = sea(4, 9);
        x.mark(4, true, true);
        Check.due("as they leave her, without winds", x.walk(0), 0);
        x.drift(1, 1, 0);
        Check.ahead(x, 1, 1);
        Check.due("as they leave her, though a DRIFT comes", x.walk(0), 0);
        Check.orders(x, 5, 4);
        Check.due("behind one", x.walk(1), 0);
        Check.due("behind two she has drifted on", x.walk(2), -1);
        x.order(1, 5);
        Check.due("behind two, no WATCH is left", x.walk(2), 0);
        Doc.says(Doc.TERMS, "The fewest WATCHES.");
        x = sea(0, 9);
        x.mark(8, true, true);
        x.mark(6, true, true);
        for (int c = 0; c < 9; c++) {
            x.ice(c, 10);
        }
        x.many(12, 0);
        Check.due("the nearer SHORE", x.walk(0), 2);
        x.ice(6, 9);
        Check.due("the farther one", x.walk(0), 4);
        Check.rule(x, "walk watch>7;");
        Check.due("the last WATCH but three", x.walk(0), 10);
        x.mark(6, true, false);
        Check.due("by the last of twelve", x.walk(0), 12);
        x.many(11, 0);
        Check.due("not by eleven", x.walk(0), -1);
    }

    private static void walkNone() {
        Doc.says(27, "NONE: not by then, those ORDERS aren't all done so, and for others.");
        ThroughPack x = sea(0, 9);
        x.mark(2, true, true);
        for (int c = 0; c < 9; c++) {
            x.ice(c, 10);
        }
        Check.due("no winds", x.walk(0), -1);
        x.many(1, 0);
        Check.due("not by then", x.walk(0), -1);
        x.many(4, 0);
        Check.orders(x, 4, 1, 3, 0);
        int[] due = {2, 2, 1, -1, -1};
        for (int k = 0; k < 5; k++) {
            Check.due("walk(" + k + ")", x.walk(k), due[k]);
        }
        for (int k : new int[] {-1, 5, 12, LOW, HIGH}) {
            Check.due("others: walk(" + k + ")", x.walk(k), -1);
        }
        x.many(12, 4);
        Check.due("the fourth can't be", x.walk(4), -1);
        Check.due("the third can", x.walk(3), 2);
        x.image();
        x.mark(1, false, true);
        Check.due("OUT behind the second", x.walk(2), -1);
        Check.due("not behind the first", x.walk(1), 2);
        x.back();
        Check.rule(x, "nips x=1;");
        Check.due("NIPPED behind the second", x.walk(2), -1);
        x.back();
        x.ship(0, 2, 9);
        Check.rule(x, "nips watch=0;");
        x.watch(0, 5, -1);
        Check.due("NIPPED as it is, though on SHORE", x.walk(0), -1);
    }

    private static void leave() {
        Doc.says(Doc.TERMS, "LEAVE: the greatest k (0 .. m; orders done, not OUT, not NIPPED) by which they come there.");
        Doc.says(28, "LEAVE.");
        ThroughPack x = sea(0, 20);
        x.mark(0, true, true);
        Check.due("on SHORE, nothing told", x.leave(), 0);
        for (int c = 0; c < 9; c++) {
            x.ice(c, 10);
        }
        x.many(6, 0);
        Check.orders(x, 1, 1, 2, 2);
        Check.due("three pushes off, three WATCHES left", x.leave(), 3);
        x.many(8, 4);
        Check.due("all four", x.leave(), 4);
        x.many(5, 4);
        Check.due("three pushes off, two left: two", x.leave(), 2);
        x.many(12, 12);
        x.order(4, 0);
        x.order(5, 0);
        x.order(6, 3);
        x.order(7, 3);
        Check.due("back on SHORE and moored there to the last", x.leave(), 12);
        x.ship(0, 0, 5);
        Check.due("the orders that her COAL can do", x.leave(), 2);
        x.ship(0, 0, 20);
        x.mark(5, false, true);
        Check.due("ahead of the one that lets her OUT", x.leave(), 2);
        x.mark(5, false, false);
        Check.rule(x, "nips x=2;");
        Check.due("ahead of the one that nips", x.leave(), 1);
    }

    private static void leaveNone() {
        Doc.says(28, "NONE: none.");
        ThroughPack x = sea(0, 20);
        Check.due("no SHORE", x.leave(), -1);
        x.mark(8, true, true);
        x.many(12, 12);
        Check.due("a SHORE that no ice leads to", x.leave(), -1);
        x.order(0, 0);
        x.mark(0, true, true);
        Check.due("on SHORE, the first can't be", x.leave(), 0);
        x.mark(1, false, true);
        x.watch(0, 1, -1);
        x.mark(1, true, true);
        Check.due("OUT, though on SHORE", x.leave(), -1);
        x.ship(0, 0, 20);
        Check.rule(x, "nips watch=1;");
        x.watch(0, 5, -1);
        Check.due("NIPPED, though on SHORE", x.leave(), -1);
    }

    private static void winter() {
        Doc.says(Doc.TERMS, "WINTER: moored in a CELL without COST (she lies there, goes by DRIFTS), by WINDS AHEAD: in how "
                + "many WATCHES a nips clause is so for where she lies; the CELL of the fewest, of like ones the lowest.");
        Doc.says(29, "WINTER: 0 the CELL, 1 how often; 10 + cell: how often there.");
        ThroughPack x = sea(4, 0);
        Check.rule(x, "nips x<2;nips y=0;");
        Check.due("no winds: the lowest CELL", x.winter(0), 0);
        Check.due("no winds: never", x.winter(1), 0);
        x.many(12, 0);
        Check.due("the lowest of two", x.winter(0), 5);
        Check.due("never", x.winter(1), 0);
        Check.due("two clauses count once a WATCH", x.winter(10), 12);
        Check.due("the first CELL with one", x.winter(12), 12);
        Check.due("the last CELL", x.winter(18), 0);
        x.by(Check.read(x, "nips 1=1;"));
        Check.due("all alike: the lowest", x.winter(0), 0);
        Check.due("twelve times", x.winter(1), 12);
        for (int c = 0; c < 9; c++) {
            ThroughPack y = sea(4, 0);
            y.many(12, 0);
            Check.rule(y, "nips x+y*3#" + c + ";");
            Check.due("that CELL alone", y.winter(0), c);
            Check.due("never", y.winter(1), 0);
        }
        x.by(Check.read(x, "nips x#0 or y#2;"));
        x.drift(1, -1, 0);
        Check.ahead(x, 0, 1, 1, 1);
        Check.due("drifted there in three, and not beyond", x.winter(18), 2);
        Check.due("in two", x.winter(17), 1);
        Check.due("in the row above never", x.winter(15), 4);
        x.by(Check.read(x, "nips wind=1 and watch=3;"));
        Check.due("once: the fourth WATCH", x.winter(1), 1);
        x.by(-1);
        Check.due("without any: never", x.winter(1), 0);
        x = sea(0, 0);
        x.ice(3, 80);
        x.drift(2, 1, 0);
        Check.rule(x, "nips thick>70;");
        Check.ahead(x, 2, 2, 2);
        Check.due("with the ICE she goes till the edge holds her", x.winter(13), 2);
        Check.due("it goes over her who lies at the edge", x.winter(15), 1);
        Check.due("ahead of it, to the edge", x.winter(14), 1);
    }

    private static void winterOthers() {
        Doc.says(29, "NONE for others.");
        ThroughPack x = new ThroughPack(3, 4);
        x.many(2, 0);
        for (int what : new int[] {-1, 2, 3, 9, 22, 23, LOW, HIGH}) {
            Check.due("winter(" + what + ")", x.winter(what), -1);
        }
        Check.due("the first CELL", x.winter(10), 0);
        Check.due("the last CELL", x.winter(21), 0);
        ThroughPack big = new ThroughPack(6, 6);
        Check.due("the last of 36", big.winter(45), 0);
        Check.due("beyond", big.winter(46), -1);
    }
}
