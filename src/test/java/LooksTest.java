/** Promises 32 to 34: what was seen from the barrel. */
public final class LooksTest {
    public static void main(String[] args) {
        priors();
        looks();
        thoughts();
        latest();
        drifting();
        Check.end();
    }

    private static void priors() {
        ThroughPack x = new ThroughPack(3, 3);
        int[][] others = {{-1, 1}, {6, 1}, {0, 10}, {0, -1}, {Integer.MAX_VALUE, 1}};
        for (int[] o : others) {
            Check.due("prior of others", x.prior(o[0], o[1]), false);
        }
        for (int kind = 0; kind < 6; kind++) {
            Check.due("at first all alike", x.think(4, kind), 166);
        }
        Check.due("prior(5, 9)", x.prior(5, 9), true);
        Check.due("9 of 14", x.think(4, 5), 642);
        Check.due("1 of 14", x.think(4, 0), 71);
        for (int kind = 0; kind < 6; kind++) {
            Check.due("prior 0", x.prior(kind, 0), true);
        }
        Check.due("all are 0", x.think(4, 0), -1);
        Check.due("looks are counted even so", x.think(4, -1), 0);
        x.prior(3, 1);
        Check.due("all of it", x.think(4, 3), 1000);
        Check.due("none of it", x.think(4, 2), 0);
    }

    private static void looks() {
        ThroughPack x = new ThroughPack(3, 3);
        int[][] others = {{-1, 0}, {9, 0}, {0, -1}, {0, 6}, {Integer.MIN_VALUE, 0}, {0, Integer.MAX_VALUE}};
        for (int[] o : others) {
            Check.due("look of others", x.look(o[0], o[1]), -1);
        }
        int[][] asks = {{-1, 0}, {9, 0}, {0, -2}, {0, 6}};
        for (int[] a : asks) {
            Check.due("think of others", x.think(a[0], a[1]), -1);
        }
        for (int i = 1; i <= 30; i++) {
            Check.due("look " + i, x.look(i % 9, i % 6), i);
        }
        Check.due("a 31st", x.look(0, 0), -1);
        Check.due("about(9)", x.about(9), 30);
        Check.due("looks in cell 1", x.think(1, -1), 4);
        Check.due("looks in cell 8", x.think(8, -1), 3);
        x.drift(0, 0, 1);
        x.watch(0, -1, -1);
        Check.due("all thirty go", x.think(4, -1), 4);
        Check.due("three of them off", x.think(0, -1), 0);
        Check.due("there are thirty still", x.look(0, 0), -1);
    }

    private static void thoughts() {
        ThroughPack x = new ThroughPack(3, 3);
        x.look(4, 0);
        int[] one = {888, 111, 0, 0, 0, 0};
        for (int kind = 0; kind < 6; kind++) {
            Check.due("class 0 was seen", x.think(4, kind), one[kind]);
        }
        x.look(4, 1);
        // Weights 8, 8, 0, ..: 8 * 1, 1 * 8.
        Check.due("then class 1", x.think(4, 0), 500);
        Check.due("then class 1", x.think(4, 1), 500);
        x.look(4, 2);
        Check.due("then class 2: 0 is two off", x.think(4, 0), 0);
        Check.due("1 alone is left", x.think(4, 1), 1000);
        x.look(4, 5);
        Check.due("then class 5: none can be", x.think(4, 1), -1);
        Check.due("how many", x.think(4, -1), 4);
        Check.due("another cell", x.think(3, 0), 166);
    }

    private static void latest() {
        ThroughPack x = new ThroughPack(3, 3);
        x.look(4, 5);
        for (int i = 0; i < 11; i++) {
            x.look(4, 1);
        }
        Check.due("of 12 none can be", x.think(4, 1), -1);
        x.look(0, 3);
        Check.due("a look elsewhere doesn't push one out", x.think(4, 1), -1);
        x.look(4, 1);
        // 8 to the 12th against 1 and 1, cut.
        Check.due("the latest 12", x.think(4, 1), 999);
        Check.due("one off", x.think(4, 0), 0);
        Check.due("all 13 are there", x.think(4, -1), 13);
        x.prior(1, 9);
        x.prior(0, 0);
        x.prior(2, 0);
        Check.due("no wrap-around", x.think(4, 1), 1000);
    }

    private static void drifting() {
        ThroughPack x = new ThroughPack(3, 3);
        x.drift(1, 1, 0);
        x.drift(2, 0, -1);
        x.look(3, 2);
        x.watch(1, -1, -1);
        Check.due("it went", x.think(3, -1), 0);
        Check.due("to the right", x.think(4, 2), 800);
        x.look(4, 3);
        Check.due("two there", x.think(4, -1), 2);
        x.watch(2, -1, -1);
        Check.due("both up", x.think(1, -1), 2);
        x.drift(1, -1, 0);
        x.watch(1, -1, -1);
        Check.due("by the drift as it is then", x.think(0, -1), 2);
        x.watch(1, -1, -1);
        for (int cell = 0; cell < 9; cell++) {
            Check.due("gone", x.think(cell, -1), 0);
        }
        x.drift(1, 1, 0);
        x.watch(1, -1, -1);
        Check.due("and not back", x.think(0, -1), 0);
        Check.due("they were looks all the same", x.about(9), 2);
        Check.due("a third", x.look(0, 0), 3);
    }
}
