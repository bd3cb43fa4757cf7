/** Promises 25 to 29: home and the last watch to turn, walkers and when to leave, where to winter. */
public final class HomeTest {
    public static void main(String[] args) {
        home();
        last();
        walk();
        walkByText();
        leave();
        winter();
        Check.end();
    }

    private static void home() {
        ThroughPack x = new ThroughPack(3, 4);
        for (int cell : new int[] {-1, 12, Integer.MIN_VALUE, Integer.MAX_VALUE}) {
            Check.due("home of others", x.home(cell), false);
        }
        Check.due("at first", x.about(8), 0);
        Check.due("home(11)", x.home(11), true);
        Check.due("about(8)", x.about(8), 11);
    }

    private static void last() {
        ThroughPack x = new ThroughPack(3, 3);
        Check.due("she is in it, no winds", x.last(), 0);
        x.home(1);
        Check.due("no winds to go there", x.last(), -1);
        Check.ahead(x, 0, 0, 0, 0, 0, 0);
        Check.due("without told orders", x.last(), 0);
        x.home(0);
        Check.orders(x, 1, 1, 2, 2);
        Check.due("behind 3 she has 3 watches for 3 pushes", x.last(), 3);
        x.ship(0, 0, 5);
        Check.due("behind 3 she has coal for 2 pushes", x.last(), 2);
        x.ship(0, 0, 3);
        Check.due("behind 2 for 1", x.last(), 1);
        x.ship(0, 0, 20);
        x.mark(3, false, true);
        Check.due("an exit in the way is gone around", x.last(), 3);
        x.mark(1, false, true);
        Check.due("the first order lets her out", x.last(), 0);
        x.mark(1, false, false);
        x.mark(0, false, true);
        Check.due("home is an exit: a push there lets her out", x.last(), 0);
        x.mark(0, false, false);
        x.mark(3, false, false);
        Check.rule(x, "nips x=1 and watch>1;");
        Check.due("behind 2 she comes back too late", x.last(), 1);
        x.by(Check.read(x, "nips 1=1;"));
        Check.due("home as it is, though all that follows nips", x.last(), 0);
        x.by(-1);
        x.many(6, 6);
        Check.due("moored in cell 8 behind 4", x.last(), 3);
        x.home(8);
        Check.due("she is there behind all six", x.last(), 6);
        x.drift(1, -1, 0);
        Check.ahead(x, 0, 1, 0);
        x.home(1);
        x.ship(0, 2, 0);
        Check.due("bank and drift there", x.last(), 0);
        x.ship(0, 4, 9);
        x.mark(5, false, true);
        x.watch(0, 1, -1);
        x.home(5);
        Check.due("out", x.last(), -1);
    }

    private static void walk() {
        ThroughPack x = new ThroughPack(4, 3);
        x.ice(1, 10);
        x.ice(2, 9);
        x.ice(3, 10);
        x.mark(2, true, true);
        Check.due("without winds", x.walk(0), -1);
        Check.ahead(x, 0, 0, 0);
        Check.due("9 is too thin", x.walk(0), -1);
        x.ice(2, 10);
        Check.due("10 bears them", x.walk(0), 2);
        x.many(2, 0);
        Check.due("just by then", x.walk(0), 2);
        x.many(1, 0);
        Check.due("not by then", x.walk(0), -1);
        x.many(3, 0);
        Check.due("others", x.walk(-1), -1);
        Check.due("others", x.walk(1), -1);
        Check.orders(x, 1, 1, 3);
        Check.due("behind 1", x.walk(1), 1);
        Check.due("as they leave her", x.walk(2), 0);
        Check.due("no watch is left", x.walk(3), -1);
        x.order(0, 0);
        Check.due("an order that can't be", x.walk(1), -1);
        Check.due("none of them", x.walk(0), 2);
        x.drift(1, 1, 0);
        x.ice(1, 0);
        x.edge(50);
        x.ahead(0, 1);
        x.ahead(1, 1);
        Check.due("they stay and are carried", x.walk(0), 2);
        x.ice(1, 50);
        Check.due("they go one and are carried one", x.walk(0), 1);
        x.drift(1, 0, 1);
        x.ice(1, 10);
        // Twice carried down, they come back up by the ice that the edge has sent.
        Check.due("a drift takes them along", x.walk(0), -1);
        x.ahead(3, 0);
        Check.due("a watch more", x.walk(0), 4);
        x.mark(1, true, true);
        Check.due("on shore they aren't carried", x.walk(0), 1);
        x.ship(0, 0, 1);
        x.mark(1, true, false);
        x.mark(4, true, true);
        Check.due("carried to a shore", x.walk(0), 1);
        x.ship(0, 3, 20);
        x.drift(1, 1, 0);
        x.mark(4, true, false);
        x.mark(2, true, true);
        Check.due("at the edge they aren't carried off", x.walk(0), 1);
    }

    private static void walkByText() {
        ThroughPack x = new ThroughPack(3, 3);
        x.mark(2, true, true);
        x.ice(1, 50);
        x.ice(2, 50);
        Check.ahead(x, 1, 2, 3);
        Check.rule(x, "walk wind=0 and watch=0 and thick=50;walk wind=1 and watch=1;nips x=0;");
        Check.due("wind and watch as each watch begins", x.walk(0), 2);
        x.wind(1);
        Check.due("the first is asked of the wind as it is", x.walk(0), -1);
        x.by(Check.read(x, "walk x>5;"));
        Check.due("no cell", x.walk(0), -1);
        x.by(Check.read(x, "may 1=1;"));
        Check.due("without a walk clause 10 or more", x.walk(0), 2);
    }

    private static void leave() {
        ThroughPack x = new ThroughPack(4, 3);
        Check.due("no shore", x.leave(), -1);
        x.mark(0, true, true);
        Check.due("on it, nothing told", x.leave(), 0);
        for (int c = 0; c < 12; c++) {
            x.ice(c, 20);
        }
        Check.ahead(x, 0, 0, 0, 0, 0);
        Check.orders(x, 1, 1, 1, 2);
        Check.due("behind 2 they have 3 watches for 2 cells", x.leave(), 2);
        x.ahead(5, 0);
        Check.due("behind 3 they have 3 for 3", x.leave(), 3);
        x.mark(2, false, true);
        Check.due("the second order lets her out", x.leave(), 1);
        x.mark(2, false, false);
        Check.rule(x, "nips x=1;");
        Check.due("the first order nips her", x.leave(), 0);
        x.mark(0, true, false);
        x.mark(11, true, true);
        x.by(-1);
        x.ship(0, 10, 20);
        x.mark(9, false, true);
        x.watch(0, 3, -1);
        Check.due("out", x.of(0, 3), 1);
        Check.due("leave of one who is out", x.leave(), -1);
        x.ship(0, 10, 20);
        Check.due("the same, not out: the first order brings her to the shore", x.leave(), 1);
    }

    private static void winter() {
        ThroughPack x = new ThroughPack(3, 3);
        for (int c = 0; c < 9; c++) {
            x.ice(c, 10 * c);
        }
        Check.rule(x, "nips thick>45;");
        Check.due("no winds: cell", x.winter(0), 0);
        Check.due("no winds: how often", x.winter(1), 0);
        Check.ahead(x, 0, 0, 0);
        Check.due("cell 8", x.winter(18), 3);
        Check.due("cell 4", x.winter(14), 0);
        Check.due("the lowest", x.winter(0), 0);
        x.by(Check.read(x, "nips thick<45;"));
        Check.due("the lowest of the fewest", x.winter(0), 5);
        Check.due("how often", x.winter(1), 0);
        x.by(Check.read(x, "nips x=2;"));
        x.drift(1, 1, 0);
        Check.ahead(x, 1, 1, 1, 1);
        Check.due("she drifts to the edge in 2, and lies there", x.winter(10), 3);
        Check.due("in 1", x.winter(11), 4);
        Check.due("at once", x.winter(12), 4);
        Check.due("best", x.winter(0), 0);
        Check.due("how often", x.winter(1), 3);
        x.by(Check.read(x, "nips wind=1 and watch#2;"));
        Check.due("wind and watch of those watches", x.winter(1), 3);
        for (int what : new int[] {-1, 2, 9, 19, Integer.MIN_VALUE, Integer.MAX_VALUE}) {
            Check.due("winter of others", x.winter(what), -1);
        }
        x.by(-1);
        Check.due("without a nips clause", x.winter(18), 0);
    }
}
