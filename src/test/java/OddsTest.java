/** Promises 30 and 31: the surest way, what it is worth to know the winds, and leads. */
public final class OddsTest {
    public static void main(String[] args) {
        oneWatch();
        twoWatches();
        threeWatches();
        ends();
        leads();
        Check.end();
    }

    private static void oneWatch() {
        ThroughPack x = new ThroughPack(3, 3);
        Check.due("no exit", x.surest(1, 0), 0);
        Check.due("the lowest order that she can do", x.surest(1, 1), 1);
        Check.due("worth", x.surest(1, 2), 0);
        x.mark(3, false, true);
        Check.due("beside an exit", x.surest(1, 0), 10);
        Check.due("push down", x.surest(1, 1), 2);
        Check.due("worth", x.surest(1, 2), 0);
        Check.due("by two, of 100", x.surest(2, 0), 100);
        Check.due("right and left take two: it must be down", x.surest(2, 1), 2);
        Check.due("by three, of 1000", x.surest(3, 0), 1000);
        Check.due("right, left, down takes three", x.surest(3, 1), 1);
        x.ship(0, 0, 1);
        Check.due("by the last coal", x.surest(1, 0), 10);
        Check.due("known ahead it is the same", x.surest(1, 2), 0);
        x.ship(0, 0, 0);
        Check.due("without coal", x.surest(3, 0), 0);
        Check.due("bank is all she can", x.surest(3, 1), 6);
        int[][] others = {{0, 0}, {4, 0}, {1, 3}, {1, -1}, {-1, 0}, {Integer.MAX_VALUE, 0}, {2, Integer.MIN_VALUE}};
        for (int[] o : others) {
            Check.due("surest of others", x.surest(o[0], o[1]), -1);
        }
    }

    /** Cell 4 in the middle; wind 0 opens the way to the right, wind 1 the way down, by a law. */
    private static void twoWatches() {
        ThroughPack x = new ThroughPack(3, 3);
        x.ship(0, 4, 20);
        x.mark(5, false, true);
        x.mark(7, false, true);
        x.wind(2);
        x.chances(2, 6, 4, 0, 0);
        Check.rule(x, "may wind=0 and x=2;may wind=1 and y=2;");
        Check.due("not now", x.surest(1, 0), 0);
        Check.due("she can't push by wind 2", x.surest(1, 1), 4);
        Check.due("orders wait for the wind that came", x.surest(2, 0), 100);
        Check.due("moor (none drifts)", x.surest(2, 1), 4);
        Check.due("nothing to gain", x.surest(2, 2), 0);
        x.chances(2, 3, 3, 4, 0);
        Check.due("wind 2 again: not by two", x.surest(2, 0), 60);
        Check.due("by three: 60 and 40 times 60, of 1000", x.surest(3, 0), 840);

        // Now drifts decide: mooring she is carried by wind 0 to the right, by wind 1 she stays; holding she stays.
        ThroughPack y = new ThroughPack(3, 3);
        y.ship(0, 3, 20);
        y.drift(0, 1, 0);
        y.mark(1, false, true);
        y.mark(0, false, true);
        y.chances(0, 7, 3, 0, 0);
        Check.rule(y, "may wind=0 and x=1 and y=0;may wind=1 and x=0 and y=0;");
        // Push up from 3 is open behind wind 1 alone, from 4 behind wind 0 alone: mooring fits both.
        Check.due("moor", y.surest(2, 0), 100);
        Check.due("moor", y.surest(2, 1), 4);
        y.by(Check.read(y, "may wind=1 and x=1 and y=0;may wind=0 and x=0 and y=0 and watch=1;"));
        // From 3 behind wind 0, from 4 behind wind 1 (never there then): hold gives 70.
        Check.due("hold", y.surest(2, 0), 70);
        Check.due("hold", y.surest(2, 1), 5);
        y.drift(1, 1, 0);
        // Hold: out behind wind 0 alone, 70; moor: in 4, out behind wind 1 alone, 30; knowing the wind: all.
        Check.due("hold", y.surest(2, 0), 70);
        Check.due("worth", y.surest(2, 2), 30);
        y.chances(0, 2, 8, 0, 0);
        Check.due("moor", y.surest(2, 0), 80);
        Check.due("moor", y.surest(2, 1), 4);
        Check.due("worth", y.surest(2, 2), 20);
    }

    private static void threeWatches() {
        ThroughPack x = new ThroughPack(4, 3);
        x.mark(3, false, true);
        Check.rule(x, "nips wind=1 and x=1;");
        x.chances(0, 5, 5, 0, 0);
        x.chances(1, 5, 5, 0, 0);
        // Three pushes: the first is nipped by wind 1, half of all.
        Check.due("chance", x.surest(3, 0), 500);
        Check.due("push", x.surest(3, 1), 1);
        Check.due("known ahead it is no better", x.surest(3, 2), 0);
        x.by(Check.read(x, "nips wind=1 and x=1 and y=0;nips wind=0 and x=1 and y=1;"));
        x.ship(0, 4, 20);
        x.mark(3, false, false);
        x.mark(6, false, true);
        // From 4: right is nipped by wind 0 in row 1; or up, right in row 0 ..: by three only two pushes and a spare.
        Check.due("chance", x.surest(2, 0), 50);
        Check.due("chance by three", x.surest(3, 0), 500);
        Check.due("knowing: wait for the good one, or fail on two bad ones", x.surest(3, 2), 250);
        x.ship(0, 4, 1);
        Check.due("without coal for two", x.surest(3, 0), 0);
        Check.due("worth", x.surest(3, 2), 0);
    }

    private static void ends() {
        ThroughPack x = new ThroughPack(3, 3);
        x.mark(1, false, true);
        x.watch(0, 1, -1);
        int[] all = {10, 100, 1000};
        for (int n = 1; n <= 3; n++) {
            Check.due("out: all", x.surest(n, 0), all[n - 1]);
            Check.due("out: no order", x.surest(n, 1), -1);
            Check.due("out: nothing to gain", x.surest(n, 2), 0);
        }
        x.ship(0, 0, 9);
        Check.rule(x, "nips 1=1;");
        x.watch(0, 5, -1);
        for (int n = 1; n <= 3; n++) {
            Check.due("nipped: 0", x.surest(n, 0), 0);
            Check.due("nipped: no order", x.surest(n, 1), -1);
            Check.due("nipped: nothing to gain", x.surest(n, 2), 0);
        }
    }

    private static void leads() {
        ThroughPack x = new ThroughPack(4, 3);
        Check.due("all open", x.leads(-1), 12);
        Check.due("her own", x.leads(0), 0);
        Check.due("the farthest", x.leads(11), 5);
        for (int cell : new int[] {12, -2, Integer.MIN_VALUE, Integer.MAX_VALUE}) {
            Check.due("leads of others", x.leads(cell), -1);
        }
        x.ice(4, 30);
        Check.due("30 is open", x.leads(4), 1);
        x.ice(4, 31);
        Check.due("31 is not", x.leads(4), -1);
        x.ice(4, 0);
        // A wall with a gap below: . # . . / . # . . / . . . .
        x.ice(1, 31);
        x.ice(5, 99);
        Check.due("two are closed", x.leads(-1), 10);
        Check.due("into the wall", x.leads(1), -1);
        Check.due("around", x.leads(2), 6);
        x.ship(0, 0, 0);
        Check.due("without coal", x.leads(2), 6);
        x.watch(0, 6, -1);
        Check.due("without fires", x.leads(2), 6);
        x.mark(9, false, true);
        Check.due("an exit ends it", x.leads(-1), 4);
        Check.due("the exit itself", x.leads(9), 3);
        Check.due("behind it", x.leads(10), -1);
        x.ship(0, 9, 5);
        Check.due("she lies in it, not out: she goes on", x.leads(-1), 10);
        Check.rule(x, "may wind=1;");
        Check.due("by the text", x.leads(-1), 1);
        x.wind(1);
        Check.due("by the wind", x.leads(-1), 12);
    }
}
