/** Edges of promises 35 and 36: runs by seeds and rules. */
final class RunEdges {
    private static final int LOW = Integer.MIN_VALUE;
    private static final int HIGH = Integer.MAX_VALUE;

    private RunEdges() { }

    static void all() {
        orders();
        draws();
        ends();
        runNone();
        runs();
        runsNone();
    }

    private static ThroughPack sea(int cell, int coal) {
        ThroughPack x = new ThroughPack(3, 3);
        x.ship(0, cell, coal);
        return x;
    }

    private static void run(ThroughPack x, int text, int n, int... due) {
        for (int what = 0; what < 4; what++) {
            Check.due("run(" + text + ", 0, " + n + ", " + what + ")", x.run(text, 0, n, what), due[what]);
        }
    }

    private static void orders() {
        Doc.says(Doc.TERMS, "RUNS by a TEXT's go clauses: the ORDER of the first that is so and that she can do, else moor, "
                + "else bank;");
        ThroughPack x = sea(0, 2);
        Check.read(x, "");
        Check.due("no go clause: moored", x.run(0, 0, 1, 3), 1);
        Check.due("moored by her last COAL", x.run(0, 0, 2, 3), 0);
        Check.due("then banked", x.run(0, 0, 40, 3), 0);
        Check.read(x, "go 0 when 1=1;go 3 when 1=1;go 7 when 1=1;go 2 when 1=2;go 1 when 1=1;go 5 when 1=1;");
        // Up and left are no cells, her fires burn, the fourth isn't so: the fifth.
        run(x, 1, 1, 0, 1, 1, 1);
        x.ship(0, 0, 0);
        run(x, 1, 1, 0, 1, 0, 0);
        x.costs(0, 9, 9);
        Check.due("moored for 0", x.run(1, 0, 1, 3), 0);
        x.costs(1, 2, 3);
        x.ship(0, 0, 9);
        x.watch(0, 6, -1);
        // BANKED: the third of them.
        run(x, 1, 1, 0, 1, 0, 6);
        Check.read(x, "may 1=1;go 6 when coal=9;go 5 when banked=0;nips 1=1;");
        Check.due("clauses of that TEXT that aren't go don't matter", x.run(2, 0, 3, 0), 0);
        x.ship(0, 0, 8);
        Check.due("held: 8 less 2 thrice", x.run(2, 0, 3, 3), 2);
        Check.due("four times", x.run(2, 0, 4, 3), 0);
        Check.due("then banked, being unable to moor", x.run(2, 0, 40, 3), 0);
        x.ship(0, 0, 7);
        Check.due("held thrice, moored once", x.run(2, 0, 4, 3), 0);
        x.ship(0, 4, 9);
        Check.read(x, "may 1=1;nips 1=1;walk 1=1;cost 1;ice 1;go 1 when 1=1;");
        run(x, 3, 1, 0, 1, 5, 8);
    }

    private static void draws() {
        Doc.says(Doc.TERMS, "WINDS by draws: X is SEED (0 .. 9999) * 7 + 3; for each WATCH X mod 10 into CHANCES (WIND 0's "
                + "first), X being (X * 173 + 11) mod 30103 then.");
        // SEED 0: X is 3, 530, 91701 mod 30103 = 1392, 240827 mod 30103 = 3, then the same again.
        // SEED 9999: X is 69996, 12109319 mod 30103 = 7913, 1368960 mod 30103 = 14325, 2478236 mod 30103 = 9790.
        int[][] digits = {{0, 3, 0, 2, 3, 0, 2, 3}, {9999, 6, 3, 5, 0}};
        for (int[] row : digits) {
            for (int n = 1; n < row.length; n++) {
                for (int below = 0; below <= 10; below++) {
                    // Wind 0 (still) for draws below the chance, else wind 1, which carries her; chances alike for both.
                    ThroughPack x = new ThroughPack(6, 6);
                    x.ship(0, 0, 99);
                    x.costs(0, 0, 0);
                    x.drift(1, 0, 1);
                    x.chances(0, below, 10 - below, 0, 0);
                    x.chances(1, below, 10 - below, 0, 0);
                    Check.read(x, "");
                    int down = 0;
                    for (int i = 1; i <= n; i++) {
                        down += row[i] >= below && down < 5 ? 1 : 0;
                    }
                    Check.due("SEED " + row[0] + " by " + n, x.run(0, row[0], n, 2), 6 * down);
                }
            }
        }
        ThroughPack x = sea(4, 9);
        Check.read(x, "");
        x.drift(0, 0, -1);
        x.drift(1, 1, 0);
        x.drift(2, 0, 1);
        x.drift(3, -1, 0);
        x.wind(2);
        x.chances(2, 3, 0, 7, 0);
        Check.due("3 is not among the first 3: not WIND 0", x.run(0, 0, 1, 2), 7);
        x.chances(2, 4, 0, 6, 0);
        Check.due("it is among the first 4: WIND 0", x.run(0, 0, 1, 2), 1);
        x.chances(2, 0, 4, 0, 6);
        Check.due("WIND 1", x.run(0, 0, 1, 2), 5);
        x.chances(2, 1, 1, 1, 7);
        Check.due("WIND 3", x.run(0, 0, 1, 2), 3);
    }

    private static void ends() {
        Doc.says(Doc.TERMS, "A RUN from now by so many WATCHES (1 .. 40), ending as she is OUT or NIPPED, rules of THE TEXT "
                + "being those that rule: how it ends, changing nothing.");
        Doc.says(35, "A RUN by a TEXT: 0 how it ends (0 neither, 1 OUT, 2 NIPPED), 1 by how many WATCHES, 2 her CELL, 3 her "
                + "COAL.");
        ThroughPack x = sea(0, 99);
        x.mark(2, false, true);
        Check.read(x, "go 1 when 1=1;may 1=2;cost 50;nips 1=1;");
        run(x, 0, 1, 0, 1, 1, 98);
        run(x, 0, 2, 1, 2, 2, 97);
        run(x, 0, 3, 1, 2, 2, 97);
        run(x, 0, 40, 1, 2, 2, 97);
        Check.rule(x, "cost 7;nips watch=1;");
        run(x, 0, 2, 1, 2, 2, 85);
        x.mark(2, false, false);
        run(x, 0, 1, 0, 1, 1, 92);
        run(x, 0, 2, 2, 2, 2, 85);
        run(x, 0, 40, 2, 2, 2, 85);
        x.by(-1);
        run(x, 0, 40, 0, 40, 2, 59);
        x.watch(0, -1, -1);
        x.by(1);
        run(x, 0, 40, 2, 1, 1, 92);
        x.by(Check.read(x, "nips watch=40;"));
        run(x, 0, 39, 0, 39, 2, 60);
        run(x, 0, 40, 2, 40, 2, 59);
        x.ship(1, 4, 9);
        String before = Whole.of(x);
        for (int what = 0; what < 4; what++) {
            x.run(0, 9, 40, what);
        }
        Check.due("changing nothing", Whole.of(x).equals(before), true);
    }

    private static void runNone() {
        Doc.says(35, "NONE for others, and if she is OUT or NIPPED.");
        ThroughPack x = sea(0, 9);
        Check.due("no TEXT", x.run(0, 0, 1, 0), -1);
        Check.read(x, "go 1 when 1=1;");
        x.mark(1, false, true);
        int[][] others = {{-1, 0, 1, 0}, {1, 0, 1, 0}, {4, 0, 1, 0}, {LOW, 0, 1, 0}, {HIGH, 0, 1, 0}, {0, -1, 1, 0},
            {0, 10000, 1, 0}, {0, LOW, 1, 0}, {0, HIGH, 1, 0}, {0, 0, 0, 0}, {0, 0, 41, 0}, {0, 0, -1, 0}, {0, 0, LOW, 0},
            {0, 0, HIGH, 0}, {0, 0, 1, -1}, {0, 0, 1, 4}, {0, 0, 1, LOW}, {0, 0, 1, HIGH}};
        for (int[] o : others) {
            Check.due("run of others", x.run(o[0], o[1], o[2], o[3]), -1);
        }
        Check.due("the first SEED", x.run(0, 0, 1, 0), 1);
        Check.due("the last SEED, the most WATCHES", x.run(0, 9999, 40, 0), 1);
        x.image();
        x.watch(0, 1, -1);
        ended(x);
        x.back();
        Check.rule(x, "nips 1=1;");
        x.watch(0, 5, -1);
        ended(x);
    }

    private static void ended(ThroughPack x) {
        for (int what = 0; what < 4; what++) {
            Check.due("OUT or NIPPED", x.run(0, 0, 1, what), -1);
        }
        for (int how = 0; how < 3; how++) {
            Check.due("OUT or NIPPED", x.runs(0, 0, 1, 1, how), -1);
        }
    }

    private static void runs() {
        Doc.says(36, "RUNS by SEEDS seed, seed + 1, .. (count of them: 1 .. 40; SEEDS up to 9999): how many end so (0, 1, "
                + "2).");
        ThroughPack x = sea(0, 9);
        x.mark(1, false, true);
        // The first draw of SEED s is 7 s + 3 mod 10; below 5 it is wind 0, by which she goes OUT in the second watch.
        x.chances(0, 5, 5, 0, 0);
        Check.read(x, "go 1 when wind=0 and watch=1;go 5 when 1=1;");
        Check.rule(x, "nips wind=1 and watch=0;");
        Check.due("40 SEEDS: half OUT", x.runs(0, 0, 40, 2, 1), 20);
        Check.due("half NIPPED", x.runs(0, 0, 40, 2, 2), 20);
        Check.due("neither: none", x.runs(0, 0, 40, 2, 0), 0);
        Check.due("by one WATCH: neither", x.runs(0, 0, 40, 1, 0), 20);
        int[] digits = {3, 0, 7, 4, 1, 8, 5, 2, 9, 6};
        for (int seed = 0; seed < 10; seed++) {
            Check.due("SEED " + seed, x.runs(0, seed, 1, 2, 1), digits[seed] < 5 ? 1 : 0);
            Check.due("SEED " + (9990 + seed), x.runs(0, 9990 + seed, 1, 2, 2), digits[seed] < 5 ? 0 : 1);
        }
        Check.due("SEEDS 1 and 2", x.runs(0, 1, 2, 40, 1), 1);
        Check.due("SEEDS 3 and 4", x.runs(0, 3, 2, 40, 1), 2);
        Check.due("the last 40", x.runs(0, 9960, 40, 2, 1), 20);
        Check.due("the last one: digit 6", x.runs(0, 9999, 1, 2, 1), 0);
    }

    private static void runsNone() {
        Doc.says(36, "NONE for others, and if she is OUT or NIPPED.");
        ThroughPack x = sea(0, 9);
        Check.due("no TEXT", x.runs(0, 0, 1, 1, 0), -1);
        Check.read(x, "");
        int[][] others = {{-1, 0, 1, 1, 0}, {1, 0, 1, 1, 0}, {LOW, 0, 1, 1, 0}, {0, -1, 1, 1, 0}, {0, -1, 2, 1, 0},
            {0, 10000, 1, 1, 0}, {0, HIGH, 1, 1, 0}, {0, HIGH, 40, 1, 0}, {0, 0, 0, 1, 0}, {0, 0, 41, 1, 0},
            {0, 0, -1, 1, 0}, {0, 1, HIGH, 1, 0}, {0, 0, 1, 0, 0}, {0, 0, 1, 41, 0}, {0, 0, 1, LOW, 0},
            {0, 0, 1, 1, -1}, {0, 0, 1, 1, 3}, {0, 0, 1, 1, HIGH}, {0, 9999, 2, 1, 0}, {0, 9961, 40, 1, 0}};
        for (int[] o : others) {
            Check.due("runs of others", x.runs(o[0], o[1], o[2], o[3], o[4]), -1);
        }
        Check.due("up to 9999", x.runs(0, 9960, 40, 40, 0), 40);
        Check.due("two up to 9999", x.runs(0, 9998, 2, 1, 0), 2);
        x.mark(1, false, true);
        x.image();
        x.watch(0, 1, -1);
        ended(x);
        x.back();
        Check.rule(x, "nips 1=1;");
        x.watch(0, 5, -1);
        ended(x);
    }
}
