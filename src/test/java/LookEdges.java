/** Edges of promises 32 to 34: priors, looks, thoughts. */
final class LookEdges {
    private static final int LOW = Integer.MIN_VALUE;
    private static final int HIGH = Integer.MAX_VALUE;

    private LookEdges() { }

    static void all() {
        priors();
        looks();
        drifting();
        weights();
        latest();
        thinkNone();
    }

    private static void thinks(ThroughPack x, int cell, int... due) {
        for (int kind = 0; kind < 6; kind++) {
            Check.due("think(" + cell + ", " + kind + ")", x.think(cell, kind), due[kind]);
        }
    }

    private static void priors() {
        Doc.says(Doc.TERMS, "PRIOR of classes 0 .. 5 of ICE (weights 0 .. 9; at first 1).");
        ThroughPack x = new ThroughPack(3, 3);
        thinks(x, 8, 166, 166, 166, 166, 166, 166);
        Doc.says(32, "PRIOR of a class: true.");
        Check.due("the first, the least", x.prior(0, 0), true);
        thinks(x, 0, 0, 200, 200, 200, 200, 200);
        Check.due("the last, the most", x.prior(5, 9), true);
        thinks(x, 0, 0, 76, 76, 76, 76, 692);
        Doc.says(32, "False for others.");
        int[][] others = {{-1, 5}, {6, 5}, {LOW, 5}, {HIGH, 5}, {3, -1}, {3, 10}, {3, LOW}, {3, HIGH}};
        for (int[] o : others) {
            Check.due("prior(" + o[0] + ", " + o[1] + ")", x.prior(o[0], o[1]), false);
            thinks(x, 0, 0, 76, 76, 76, 76, 692);
        }
    }

    private static void looks() {
        Doc.says(Doc.TERMS, "LOOKS (30 at most): a CELL and a class, as THE WATCH is then;");
        Doc.says(33, "A LOOK: how many there are.");
        ThroughPack x = new ThroughPack(3, 3);
        for (int i = 1; i <= 29; i++) {
            Check.due("the first CELL and class", x.look(0, 0), i);
        }
        Check.due("the last CELL and class", x.look(8, 5), 30);
        Doc.says(33, "NONE for others, or if there are 30.");
        Check.due("the 31st", x.look(4, 2), -1);
        Check.due("30", x.about(9), 30);
        Check.due("none in CELL 4", x.think(4, -1), 0);
        Check.due("all 29 in CELL 0", x.think(0, -1), 29);
        Check.due("one in CELL 8", x.think(8, -1), 1);
        x.back();
        Check.due("none there", x.about(9), 0);
        int[][] others = {{-1, 0}, {9, 0}, {LOW, 0}, {HIGH, 0}, {4, -1}, {4, 6}, {4, LOW}, {4, HIGH}};
        for (int[] o : others) {
            Check.due("look(" + o[0] + ", " + o[1] + ")", x.look(o[0], o[1]), -1);
            Check.due("none came", x.about(9) + x.think(4, -1), 0);
        }
    }

    private static void drifting() {
        Doc.says(Doc.TERMS, "what was looked at goes by the DRIFTS of each WATCH that goes by behind (gone, if it leaves).");
        for (int d = 0; d < 9; d++) {
            int dx = d % 3 - 1;
            int dy = d / 3 - 1;
            for (int c = 0; c < 9; c++) {
                ThroughPack x = new ThroughPack(3, 3);
                x.drift(2, dx, dy);
                x.look(c, 3);
                x.watch(2, -1, -1);
                int toX = c % 3 + dx;
                int toY = c / 3 + dy;
                boolean left = toX < 0 || toX > 2 || toY < 0 || toY > 2;
                int there = left ? -1 : toX + 3 * toY;
                for (int cell = 0; cell < 9; cell++) {
                    Check.due("from " + c + " by " + dx + " " + dy, x.think(cell, -1), cell == there ? 1 : 0);
                }
                x.drift(2, -dx, -dy);
                x.watch(2, -1, -1);
                Check.due("what is gone stays gone", x.think(c, -1), left ? 0 : 1);
            }
        }
        ThroughPack x = new ThroughPack(3, 3);
        x.drift(1, 1, 0);
        x.watch(1, -1, -1);
        x.look(3, 2);
        Check.due("WATCHES that went by before don't matter", x.think(3, -1), 1);
        x.watch(1, -1, -1);
        x.look(4, 2);
        x.drift(1, 0, 1);
        Check.due("nor a DRIFT that is told later", x.think(4, -1), 2);
        x.watch(1, -1, -1);
        Check.due("both go on", x.think(7, -1), 2);
        x.watch(4, -1, -1);
        Check.due("a WATCH that is refused", x.think(7, -1), 2);
        x.run(0, 0, 5, 0);
        x.watch(1, -1, -1);
        Check.due("gone", x.think(7, -1), 0);
        Check.due("they were LOOKS", x.about(9), 2);
    }

    private static void weights() {
        Doc.says(Doc.TERMS, "THINK of a CELL: each class's PRIOR times, for each of the latest 12 LOOKS that are there now,");
        Doc.says(34, "THINK of a CELL and class; kind NONE: how many LOOKS are there.");
        ThroughPack x = new ThroughPack(3, 3);
        Doc.says(Doc.TERMS, "8 if its class is that, 1 if it is one off, else 0; in thousandths, cut, of all.");
        x.look(0, 0);
        x.look(1, 5);
        x.look(2, 2);
        thinks(x, 0, 888, 111, 0, 0, 0, 0);
        thinks(x, 1, 0, 0, 0, 0, 111, 888);
        thinks(x, 2, 0, 100, 800, 100, 0, 0);
        thinks(x, 3, 166, 166, 166, 166, 166, 166);
        x.look(2, 2);
        // 1, 64, 1 of 66.
        thinks(x, 2, 0, 15, 969, 15, 0, 0);
        x.look(2, 3);
        // 0, 64 * 1, 1 * 8: of 72.
        thinks(x, 2, 0, 0, 888, 111, 0, 0);
        x.prior(2, 0);
        thinks(x, 2, 0, 0, 0, 1000, 0, 0);
        x.prior(2, 9);
        x.prior(3, 2);
        // 576 and 16 of 592.
        thinks(x, 2, 0, 0, 972, 27, 0, 0);
    }

    private static void latest() {
        ThroughPack x = new ThroughPack(3, 3);
        x.look(4, 0);
        x.look(4, 1);
        for (int i = 0; i < 10; i++) {
            x.look(4, 2);
        }
        // Of 12: the first leaves 0 and 1, the second 0, 1, 2, the rest 1, 2, 3: so 1 alone.
        thinks(x, 4, 0, 1000, 0, 0, 0, 0);
        x.look(5, 4);
        Check.due("one elsewhere is none of them", x.think(4, 1), 1000);
        x.look(4, 2);
        // The latest 12: one of 1 and eleven of 2: 8 against 8 to the 11th.
        thinks(x, 4, 0, 0, 999, 0, 0, 0);
        Check.due("13 are there", x.think(4, -1), 13);
        x.prior(2, 0);
        thinks(x, 4, 0, 1000, 0, 0, 0, 0);
        x.look(4, 2);
        // Twelve of 2: 1 and 3 alike, since 2 has no weight.
        thinks(x, 4, 0, 500, 0, 500, 0, 0);
        ThroughPack y = new ThroughPack(3, 3);
        for (int i = 0; i < 30; i++) {
            y.look(4, 3);
        }
        for (int kind = 0; kind < 6; kind++) {
            y.prior(kind, 9);
        }
        thinks(y, 4, 0, 0, 0, 999, 0, 0);
        Check.due("30 are there", y.think(4, -1), 30);
        y.prior(2, 0);
        y.prior(4, 0);
        thinks(y, 4, 0, 0, 0, 1000, 0, 0);
    }

    private static void thinkNone() {
        Doc.says(34, "NONE: all weights are 0, and for others.");
        ThroughPack x = new ThroughPack(3, 3);
        x.look(4, 0);
        x.look(4, 2);
        thinks(x, 4, 0, 1000, 0, 0, 0, 0);
        x.look(4, 3);
        thinks(x, 4, -1, -1, -1, -1, -1, -1);
        Check.due("LOOKS even so", x.think(4, -1), 3);
        for (int kind = 0; kind < 6; kind++) {
            Check.due("not yet", x.think(0, 5) > 0, true);
            x.prior(kind, 0);
        }
        thinks(x, 0, -1, -1, -1, -1, -1, -1);
        Check.due("no LOOKS there", x.think(0, -1), 0);
        x.prior(5, 1);
        thinks(x, 0, 0, 0, 0, 0, 0, 1000);
        int[][] others = {{-1, 5}, {9, 5}, {LOW, 5}, {HIGH, 5}, {0, -2}, {0, 6}, {0, LOW}, {0, HIGH}, {-1, -1}, {9, -1}};
        for (int[] o : others) {
            Check.due("think(" + o[0] + ", " + o[1] + ")", x.think(o[0], o[1]), -1);
        }
    }
}
