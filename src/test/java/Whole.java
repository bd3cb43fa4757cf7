/** All that can be seen of an object without changing it, but its tape and its fault: some 250 calls. */
final class Whole {
    private Whole() { }

    static String of(ThroughPack x) {
        StringBuilder all = new StringBuilder();
        for (int what = 0; what < 12; what++) {
            add(all, what == 10 ? 0 : x.about(what));
        }
        int cells = x.about(0) * x.about(1);
        for (int c = 0; c < cells; c++) {
            add(all, x.iceAt(c), x.leads(c), x.winter(10 + c));
            for (int kind = -1; kind < 6; kind++) {
                add(all, x.think(c, kind));
            }
        }
        for (int ship = 0; ship < 2; ship++) {
            for (int order = 0; order < 8; order++) {
                add(all, x.of(ship, order), x.can(ship, order) ? 1 : 0);
            }
        }
        add(all, x.soonest(0), x.soonest(1), x.least(), x.told(-1), x.last(), x.leave());
        for (int k = 0; k <= 12; k++) {
            add(all, x.soonest(10 + k), x.told(k), x.walk(k));
        }
        for (int n = 1; n <= 3; n++) {
            add(all, x.surest(n, 0), x.surest(n, 1), x.surest(n, 2));
        }
        for (int text = 0; text < 4; text++) {
            add(all, x.run(text, 8, 7, 0), x.run(text, 8, 7, 1), x.run(text, 8, 7, 2), x.run(text, 8, 7, 3));
            add(all, x.run(text, 1, 2, 2), x.run(text, 0, 4, 2));
        }
        return all.toString();
    }

    private static void add(StringBuilder all, int... answers) {
        for (int each : answers) {
            all.append(each).append(' ');
        }
        all.append('|');
    }
}
