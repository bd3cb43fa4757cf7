/** Promises 35 and 36: runs by seeds and rules. */
public final class RunTest {
    public static void main(String[] args) {
        orders();
        rules();
        draws();
        ends();
        runs();
        Check.end();
    }

    private static void run(ThroughPack x, int text, int n, int... due) {
        for (int what = 0; what < 4; what++) {
            Check.due("run(" + text + ", 0, " + n + ", " + what + ")", x.run(text, 0, n, what), due[what]);
        }
    }

    private static void orders() {
        ThroughPack x = new ThroughPack(3, 3);
        Check.due("no text", x.run(0, 0, 1, 0), -1);
        Check.due("empty text", Check.read(x, ""), 0);
        run(x, 0, 5, 0, 5, 0, 15);
        run(x, 0, 25, 0, 25, 0, 0);
        x.ship(0, 0, 0);
        run(x, 0, 1, 0, 1, 0, 0);
        x.ship(0, 0, 20);
        Check.due("text", Check.read(x, "go 0 when 1=1;go 2 when y<1;go 1 when x<2;may 1=2;"), 1);
        // Up can't be from row 0; down into row 1; then up and down again.
        run(x, 1, 1, 0, 1, 3, 19);
        run(x, 1, 2, 0, 2, 0, 18);
        run(x, 1, 3, 0, 3, 3, 17);
        Check.due("text", Check.read(x, "go 6 when banked=0;go 7 when coal>=17;"), 2);
        run(x, 2, 1, 0, 1, 0, 20);
        run(x, 2, 2, 0, 2, 0, 17);
        run(x, 2, 4, 0, 4, 0, 14);
        // Banked, 14 of coal: raising isn't asked, mooring can't be, so she banks on.
        run(x, 2, 40, 0, 40, 0, 14);
        Check.due("text", Check.read(x, "go 1 when thick=7;go 2 when watch=1 and wind=0;go 5 when north=4;"), 3);
        x.ice(0, 7);
        x.edge(4);
        run(x, 3, 1, 0, 1, 1, 19);
        run(x, 3, 2, 0, 2, 4, 18);
        run(x, 3, 3, 0, 3, 4, 17);
    }

    private static void rules() {
        ThroughPack x = new ThroughPack(3, 3);
        Check.due("the text that runs", Check.read(x, "go 1 when 1=1;may 1=2;cost 9;"), 0);
        run(x, 0, 1, 0, 1, 1, 19);
        Check.rule(x, "cost 5;ice 40+watch*20;nips thick>50;go 2 when 1=1;");
        run(x, 0, 1, 0, 1, 1, 15);
        // Ice 40 closes the way behind the first watch; moored, and nipped by 60 in the second.
        run(x, 0, 2, 2, 2, 1, 14);
        run(x, 0, 40, 2, 2, 1, 14);
        run(x, 1, 1, 0, 1, 3, 15);
    }

    private static void draws() {
        ThroughPack x = new ThroughPack(6, 6);
        x.costs(0, 0, 0);
        Check.read(x, "");
        x.drift(1, 1, 0);
        x.drift(2, 0, 1);
        x.drift(3, 1, 1);
        x.chances(0, 4, 3, 2, 1);
        x.chances(1, 1, 2, 3, 4);
        x.chances(2, 0, 5, 0, 5);
        x.chances(3, 10, 0, 0, 0);
        int[][] chances = {{4, 3, 2, 1}, {1, 2, 3, 4}, {0, 5, 0, 5}, {10, 0, 0, 0}};
        for (int seed : new int[] {0, 1, 2, 3, 77, 5000, 9998, 9999}) {
            int wind = 0;
            int draw = seed * 7 + 3;
            int cx = 0;
            int cy = 0;
            for (int n = 1; n <= 40; n++) {
                int below = 0;
                int next = -1;
                while (below <= draw % 10) {
                    next++;
                    below += chances[wind][next];
                }
                wind = next;
                draw = (draw * 173 + 11) % 30103;
                int right = wind == 1 || wind == 3 ? 1 : 0;
                int down = wind == 2 || wind == 3 ? 1 : 0;
                if (cx + right < 6 && cy + down < 6) {
                    cx += right;
                    cy += down;
                }
                Check.due("seed " + seed + " behind " + n, x.run(0, seed, n, 2), cx + 6 * cy);
            }
        }
    }

    private static void ends() {
        ThroughPack x = new ThroughPack(3, 3);
        x.mark(2, false, true);
        x.ship(1, 4, 7);
        Check.read(x, "go 1 when x<2;");
        run(x, 0, 1, 0, 1, 1, 19);
        run(x, 0, 2, 1, 2, 2, 18);
        run(x, 0, 40, 1, 2, 2, 18);
        Check.due("nothing changes: cell", x.of(0, 0), 0);
        Check.due("nothing changes: coal", x.of(0, 1), 20);
        Check.due("nothing changes: watch", x.about(2), 0);
        Check.due("nothing changes: wind", x.about(3), 0);
        int[][] others = {{1, 0, 1, 0}, {-1, 0, 1, 0}, {0, -1, 1, 0}, {0, 10000, 1, 0}, {0, 0, 0, 0}, {0, 0, 41, 0},
            {0, 0, 1, -1}, {0, 0, 1, 4}};
        for (int[] o : others) {
            Check.due("run of others", x.run(o[0], o[1], o[2], o[3]), -1);
        }
        x.watch(0, 1, -1);
        run(x, 0, 40, 1, 1, 2, 18);
        x.watch(0, 1, -1);
        Check.due("out", x.run(0, 0, 1, 0), -1);
        Check.due("out", x.runs(0, 0, 1, 1, 0), -1);
    }

    private static void runs() {
        ThroughPack x = new ThroughPack(3, 3);
        x.mark(1, false, true);
        x.chances(0, 5, 5, 0, 0);
        Check.read(x, "go 1 when wind=0 and watch=1;go 5 when 1=1;");
        Check.rule(x, "nips wind=1 and watch=1;");
        int[] ends = new int[3];
        for (int seed = 100; seed < 140; seed++) {
            ends[x.run(0, seed, 2, 0)]++;
        }
        Check.due("some are out", ends[1] > 5, true);
        Check.due("some are nipped", ends[2] > 5, true);
        for (int how = 0; how < 3; how++) {
            Check.due("runs that end so", x.runs(0, 100, 40, 2, how), ends[how]);
        }
        x.chances(0, 9, 1, 0, 0);
        for (int seed = 2; seed < 40; seed += 5) {
            int out = 0;
            for (int i = 0; i < 3; i++) {
                out += x.run(0, seed + i, 2, 0) == 1 ? 1 : 0;
            }
            Check.due("three runs from " + seed, x.runs(0, seed, 3, 2, 1), out);
        }
        Check.due("one run", x.runs(0, 9999, 1, 1, 0), 1);
        Check.due("up to 9999", x.runs(0, 9960, 40, 1, 0), 40);
        int[][] others = {{0, 9961, 40, 1, 0}, {0, 0, 0, 1, 0}, {0, 0, 41, 1, 0}, {0, -1, 1, 1, 0}, {0, 10000, 1, 1, 0},
            {2, 0, 1, 1, 0}, {-1, 0, 1, 1, 0}, {0, 0, 1, 0, 0}, {0, 0, 1, 41, 0}, {0, 0, 1, 1, 3}, {0, 0, 1, 1, -1},
            {0, Integer.MAX_VALUE, Integer.MAX_VALUE, 1, 0}};
        for (int[] o : others) {
            Check.due("runs of others", x.runs(o[0], o[1], o[2], o[3], o[4]), -1);
        }
    }
}
