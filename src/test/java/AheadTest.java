/** Promises 19 to 24: winds ahead, the soonest way out, the least coal, told orders. */
public final class AheadTest {
    public static void main(String[] args) {
        counts();
        soonest();
        soonestByCoal();
        soonestThroughIce();
        least();
        told();
        twelve();
        nothingChanges();
        Check.end();
    }

    private static void counts() {
        ThroughPack x = new ThroughPack(3, 3);
        int[][] others = {{-1, 0}, {12, 0}, {0, 4}, {0, -1}, {Integer.MAX_VALUE, 0}};
        for (int[] o : others) {
            Check.due("ahead of others", x.ahead(o[0], o[1]), -1);
        }
        Check.due("order ahead of any wind", x.order(0, 4), -1);
        Check.due("ahead(3, 1)", x.ahead(3, 1), 4);
        Check.due("ahead(1, 2)", x.ahead(1, 2), 4);
        Check.due("order(4, 0)", x.order(4, 0), -1);
        Check.due("order(-1, 0)", x.order(-1, 0), -1);
        Check.due("order(0, 8)", x.order(0, 8), -1);
        Check.due("order(0, -1)", x.order(0, -1), -1);
        Check.due("order(3, 7)", x.order(3, 7), 4);
        Check.due("order(0, 0)", x.order(0, 0), 4);
        int[][] bad = {{13, 0}, {-1, 0}, {3, 4}, {3, -1}, {12, 13}, {-1, -1}};
        for (int[] b : bad) {
            Check.due("many of others", x.many(b[0], b[1]), false);
        }
        Check.due("n stays", x.about(6), 4);
        Check.due("m stays", x.about(7), 4);
        Check.due("many(12, 12)", x.many(12, 12), true);
        Check.due("n", x.about(6), 12);
        Check.due("m", x.about(7), 12);
        Check.due("many(0, 0)", x.many(0, 0), true);
        Check.due("ahead(11, 3)", x.ahead(11, 3), 12);
        Check.due("m stays", x.about(7), 0);
    }

    private static void soonest() {
        ThroughPack x = new ThroughPack(3, 3);
        x.mark(8, false, true);
        Check.due("without winds", x.soonest(0), -1);
        Check.ahead(x, 0, 0, 0);
        Check.due("three watches are too few", x.soonest(0), -1);
        x.ahead(3, 0);
        Check.due("four are enough", x.soonest(0), 4);
        Check.due("coal left", x.soonest(1), 16);
        int[] orders = {1, 1, 2, 2};
        for (int k = 0; k < 4; k++) {
            Check.due("lowest orders", x.soonest(10 + k), orders[k]);
        }
        for (int what : new int[] {14, 21, 22, 2, 9, -1, Integer.MIN_VALUE, Integer.MAX_VALUE}) {
            Check.due("soonest(" + what + ")", x.soonest(what), -1);
        }
        x.drift(1, 1, 1);
        x.ahead(0, 1);
        Check.due("drift helps: moor, then push twice", x.soonest(0), 3);
        Check.due("moor is 1, bank would be 0 but needs a raise", x.soonest(1), 17);
        Check.due("moor first", x.soonest(10), 4);
        Check.due("then right", x.soonest(11), 1);
        x.costs(4, 2, 0);
        // Bank and raise drift her and cost nothing, but then she raises for a watch that she has not.
        Check.due("moor at 4", x.soonest(1), 14);
        x.watch(0, 6, -1);
        Check.due("with banked fires: raise drifts her too", x.soonest(0), 3);
        Check.due("for nothing", x.soonest(1), 18);
        Check.due("raise first", x.soonest(10), 7);
        x.ship(0, 7, 5);
        x.watch(0, 1, -1);
        Check.due("out: none", x.soonest(0), -1);
        Check.due("out: none", x.soonest(10), -1);
    }

    private static void soonestByCoal() {
        ThroughPack x = new ThroughPack(4, 3);
        x.mark(3, false, true);
        x.ice(1, 30);
        x.ice(2, 30);
        Check.ahead(x, 0, 0, 0, 0, 0);
        Check.due("straight on in 3", x.soonest(0), 3);
        Check.due("for 9", x.soonest(1), 11);
        x.ship(0, 0, 8);
        Check.due("round about in 5, if coal is short", x.soonest(0), 5);
        Check.due("for 5", x.soonest(1), 3);
        int[] orders = {2, 1, 1, 1, 0};
        for (int k = 0; k < 5; k++) {
            Check.due("round about", x.soonest(10 + k), orders[k]);
        }
        x.ship(0, 0, 4);
        Check.due("4 is too little", x.soonest(0), -1);
        Check.due("least is 5", x.least(), 5);
        x.many(3, 0);
        Check.due("in 3 watches least is 9", x.least(), 9);
    }

    private static void soonestThroughIce() {
        ThroughPack x = new ThroughPack(3, 3);
        x.mark(2, false, true);
        x.ice(1, 90);
        x.drift(1, 0, 1);
        x.edge(0);
        Check.ahead(x, 1, 0, 0);
        Check.due("she holds till the ice has gone", x.soonest(0), 3);
        Check.due("hold first", x.soonest(10), 5);
        Check.due("coal", x.soonest(1), 16);
        x.ice(0, 0);
        x.drift(1, 0, -1);
        Check.rule(x, "nips thick>50 or x=0 and wind=1;");
        Check.due("nipped as she waits", x.soonest(0), -1);
        Check.due("no coal helps", x.least(), -1);
        x.by(Check.read(x, "nips x=1 and wind=0;"));
        x.ahead(1, 1);
        Check.due("not nipped by wind 1", x.soonest(0), 3);
        x.ahead(1, 0);
        Check.due("nipped by wind 0", x.soonest(0), -1);
    }

    private static void least() {
        ThroughPack x = new ThroughPack(3, 3);
        x.mark(1, false, true);
        Check.due("no winds", x.least(), -1);
        Check.ahead(x, 0);
        Check.due("one push", x.least(), 1);
        x.ice(1, 30);
        Check.due("through 30", x.least(), 4);
        Check.rule(x, "cost 99;");
        Check.due("99", x.least(), 99);
        x.ship(0, 0, 0);
        Check.due("whatever she has", x.least(), 99);
        x.ahead(1, 0);
        x.costs(0, 0, 1);
        x.watch(0, 6, -1);
        Check.due("raise and push: 100 is too much", x.least(), -1);
        x.costs(0, 0, 0);
        Check.due("raise for 0", x.least(), 99);
        x.by(Check.read(x, "cost 0-5;"));
        Check.due("for nothing", x.least(), 0);
        x.ship(0, 0, 0);
        Check.due("without coal, for nothing", x.soonest(0), 1);
        Check.due("none left", x.soonest(1), 0);
        x.watch(0, 6, -1);
        Check.due("raise and push, all for nothing", x.soonest(0), 2);
        x.watch(0, 7, -1);
        x.watch(0, 1, -1);
        Check.due("out", x.of(0, 3), 1);
        Check.due("least of one who is out", x.least(), -1);
    }

    private static void told() {
        ThroughPack x = new ThroughPack(3, 3);
        x.drift(1, 1, 0);
        Check.due("told(-1) without any", x.told(-1), 0);
        Check.due("told(0) without any", x.told(0), -1);
        Check.ahead(x, 0, 1, 0, 0, 0);
        Check.due("a gap is moored through", x.order(2, 2), 3);
        Check.due("order(0, 2)", x.order(0, 2), 3);
        Check.due("goes on", x.told(-1), 3);
        Check.due("behind 0", x.told(0), 3);
        Check.due("behind 1: moored, drifted", x.told(1), 4);
        Check.due("behind 2", x.told(2), 7);
        Check.due("behind what isn't told", x.told(3), -1);
        Check.due("others", x.told(-2), -1);
        x.order(3, 2);
        Check.due("a push beyond the sea ends it", x.told(-1), 3);
        Check.due("behind it", x.told(3), -1);
        x.order(4, 0);
        Check.due("and behind those", x.told(4), -1);
        Check.due("still 3", x.told(-1), 3);
        x.order(3, 1);
        x.mark(8, false, true);
        Check.due("out ends it", x.told(-1), 3);
        Check.due("behind out", x.told(3), -1);
        Check.rule(x, "nips x=1 and y=1;");
        Check.due("nipped ends it", x.told(-1), 1);
        Check.due("ahead of it", x.told(0), 3);
        Check.due("behind nipped", x.told(1), -1);
        x.by(-1);
        x.ship(0, 0, 2);
        Check.due("coal for two", x.told(-1), 2);
        Check.due("behind 2", x.told(2), -1);
        x.many(5, 1);
        Check.due("one told", x.told(-1), 1);
        Check.due("told(1) isn't told", x.told(1), -1);
        x.ship(0, 5, 9);
        x.watch(0, 2, -1);
        Check.due("out", x.of(0, 3), 1);
        Check.due("told(-1) of one who is out", x.told(-1), 0);
        Check.due("told(0) of one who is out", x.told(0), -1);
    }

    private static void twelve() {
        ThroughPack x = new ThroughPack(6, 6);
        Check.ahead(x, 0, 0, 0, 0, 0, 0, 0, 0, 0, 0, 0, 0);
        Check.orders(x, 1, 1, 1, 1, 1, 2, 2, 2, 2, 2, 3, 3);
        Check.due("all twelve", x.told(-1), 12);
        Check.due("behind the last", x.told(11), 33);
        x.mark(33, true, true);
        Check.due("leave behind all twelve", x.leave(), 12);
        x.home(33);
        Check.due("home behind all twelve", x.last(), 12);
        x.many(12, 0);
        x.mark(33, false, true);
        x.mark(33, true, false);
        x.ship(0, 0, 8);
        Check.due("eight pushes by eight of coal", x.soonest(0), 8);
        int[] orders = {1, 1, 1, 2, 2, 2, 2, 2};
        for (int k = 0; k < 12; k++) {
            Check.due("order " + k, x.soonest(10 + k), k < 8 ? orders[k] : -1);
        }
        x.mark(33, false, false);
        x.mark(35, false, true);
        x.ship(0, 0, 20);
        Check.due("ten pushes", x.soonest(0), 10);
        x.many(9, 0);
        Check.due("nine watches are too few", x.soonest(0), -1);
    }

    private static void nothingChanges() {
        ThroughPack x = new ThroughPack(4, 4);
        x.drift(1, 1, 1);
        x.ice(3, 44);
        x.ship(1, 5, 9);
        x.mark(15, false, true);
        Check.ahead(x, 1, 1, 1, 1, 0, 0, 1, 1);
        Check.orders(x, 4, 4, 5);
        x.soonest(0);
        x.least();
        x.told(-1);
        x.last();
        x.walk(1);
        x.leave();
        x.winter(0);
        x.surest(3, 2);
        x.leads(-1);
        int[] due = {4, 4, 0, 0, 0, -1, 8, 3, 0, 0, 0, 0};
        for (int what = 0; what < 12; what++) {
            Check.due("about(" + what + ")", x.about(what), due[what]);
        }
        Check.due("ice", x.iceAt(3), 44);
        Check.due("cell", x.of(0, 0), 0);
        Check.due("coal", x.of(0, 1), 20);
        Check.due("ship 1", x.of(1, 0), 5);
    }
}
