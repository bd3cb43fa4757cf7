/** Promises 1 to 10 and 39: a new object, what is set, and what is told of it. */
public final class SeaTest {
    private static final int LOW = Integer.MIN_VALUE;
    private static final int HIGH = Integer.MAX_VALUE;

    public static void main(String[] args) {
        newObjects();
        iceAndEdge();
        marks();
        driftsAndChances();
        shipsAndCosts();
        about();
        Check.end();
    }

    private static void newObjects() {
        int[][] sides = {{3, 3, 3, 3}, {6, 6, 6, 6}, {2, 7, 3, 6}, {0, -5, 3, 3}, {LOW, HIGH, 3, 6}, {4, 5, 4, 5}};
        for (int[] s : sides) {
            ThroughPack x = new ThroughPack(s[0], s[1]);
            Check.due("about(0)", x.about(0), s[2]);
            Check.due("about(1)", x.about(1), s[3]);
            Check.due("the last cell", x.iceAt(s[2] * s[3] - 1), 0);
            Check.due("beyond it", x.iceAt(s[2] * s[3]), -1);
        }
        ThroughPack x = new ThroughPack(4, 3);
        int[] first = {4, 3, 0, 0, 0, -1, 0, 0, 0, 0, 0, 0};
        for (int what = 0; what < first.length; what++) {
            Check.due("about(" + what + ") at first", x.about(what), first[what]);
        }
        Check.due("her cell", x.of(0, 0), 0);
        Check.due("her coal", x.of(0, 1), 20);
        Check.due("her fires", x.of(0, 2), 0);
        Check.due("her fate", x.of(0, 3), 0);
        Check.due("no second ship", x.of(1, 0), -1);
        x.ice(5, 44);
        x.wind(2);
        x.ship(0, 7, 3);
        Check.due("back to the new object", x.back(), 0);
        Check.due("ice", x.iceAt(5), 0);
        Check.due("wind", x.about(3), 0);
        Check.due("cell", x.of(0, 0), 0);
        Check.due("coal", x.of(0, 1), 20);
    }

    private static void iceAndEdge() {
        ThroughPack x = new ThroughPack(4, 3);
        Check.due("ice(11, 99)", x.ice(11, 99), true);
        Check.due("ice(0, 1)", x.ice(0, 1), true);
        Check.due("ice(0, 0)", x.ice(0, 0), true);
        int[][] others = {{12, 1}, {-1, 1}, {3, 100}, {3, -1}, {LOW, 0}, {HIGH, 0}, {3, HIGH}, {3, LOW}};
        for (int[] o : others) {
            Check.due("ice of others", x.ice(o[0], o[1]), false);
        }
        Check.due("iceAt(11)", x.iceAt(11), 99);
        Check.due("iceAt(0)", x.iceAt(0), 0);
        Check.due("iceAt(3)", x.iceAt(3), 0);
        for (int cell : new int[] {12, -1, LOW, HIGH}) {
            Check.due("iceAt of others", x.iceAt(cell), -1);
        }
        Check.due("edge(99)", x.edge(99), true);
        Check.due("edge(100)", x.edge(100), false);
        Check.due("edge(-1)", x.edge(-1), false);
        Check.due("about(11)", x.about(11), 99);
        x.drift(0, 0, 1);
        x.watch(0, -1, -1);
        Check.due("edge comes in", x.iceAt(3), 99);
        Check.due("and nothing else", x.iceAt(7), 0);
    }

    private static void marks() {
        ThroughPack x = new ThroughPack(3, 3);
        for (int cell : new int[] {-1, 9, LOW, HIGH}) {
            Check.due("mark of others", x.mark(cell, false, true), false);
            Check.due("mark of others", x.mark(cell, true, true), false);
        }
        Check.due("mark", x.mark(1, false, true), true);
        x.image();
        Check.due("push", x.watch(0, 1, -1), 1);
        Check.due("out", x.of(0, 3), 1);
        x.back();
        Check.due("mark", x.mark(1, false, false), true);
        x.watch(0, 1, -1);
        Check.due("no exit any more", x.of(0, 3), 0);
        x.back();
        x.mark(1, false, false);
        Check.due("mark a shore", x.mark(1, true, true), true);
        x.watch(0, 1, -1);
        Check.due("a shore is no exit", x.of(0, 3), 0);
        Check.due("walkers are on it", x.walk(0), 0);
        x.mark(1, true, false);
        Check.due("walkers are not", x.walk(0), -1);
        x.mark(1, true, true);
        x.mark(1, false, true);
        Check.due("both at once", x.walk(0), 0);
    }

    private static void driftsAndChances() {
        ThroughPack x = new ThroughPack(3, 3);
        int[][] bad = {{-1, 0, 0}, {4, 0, 0}, {0, 2, 0}, {0, -2, 0}, {0, 0, 2}, {0, 0, -2}, {HIGH, 0, 0}, {0, LOW, 0}};
        for (int[] b : bad) {
            Check.due("drift of others", x.drift(b[0], b[1], b[2]), false);
        }
        Check.due("drift", x.drift(3, 1, 1), true);
        x.ice(0, 50);
        x.watch(3, 5, -1);
        Check.due("both ways at once", x.iceAt(4), 50);
        Check.due("she held", x.of(0, 0), 0);
        int[][] others = {{-1, 10, 0, 0, 0}, {4, 10, 0, 0, 0}, {0, 9, 0, 0, 0}, {0, 11, -1, 0, 0}, {0, 3, 3, 3, 3},
            {0, HIGH, HIGH, 12, 0}, {0, 0, 0, 20, -10}};
        for (int[] o : others) {
            Check.due("chances of others", x.chances(o[0], o[1], o[2], o[3], o[4]), false);
        }
        Check.due("a text", Check.read(x, "go 4 when 0=0;"), 0);
        x.by(-1);
        x.drift(0, 0, 0);
        x.drift(1, 1, 0);
        x.wind(0);
        x.ship(0, 0, 20);
        Check.due("chances at first: the same wind again", x.run(0, 0, 1, 2), 0);
        Check.due("chances", x.chances(0, 0, 10, 0, 0), true);
        Check.due("now wind 1", x.run(0, 0, 1, 2), 1);
        Check.due("false changes nothing", x.chances(0, 10, 1, 0, 0), false);
        Check.due("still wind 1", x.run(0, 0, 1, 2), 1);
        Check.due("wind 1 again behind it", x.run(0, 0, 2, 2), 2);
    }

    private static void shipsAndCosts() {
        ThroughPack x = new ThroughPack(3, 3);
        int[][] bad = {{2, 0, 0}, {-1, 0, 0}, {0, 9, 0}, {0, -1, 0}, {1, -2, 0}, {0, 0, 100}, {0, 0, -1}, {1, 9, 5}};
        for (int[] b : bad) {
            Check.due("ship of others", x.ship(b[0], b[1], b[2]), false);
        }
        Check.due("still there", x.of(0, 1), 20);
        Check.due("ship 1", x.ship(1, 8, 99), true);
        Check.due("her cell", x.of(1, 0), 8);
        Check.due("her coal", x.of(1, 1), 99);
        x.watch(0, 6, 6);
        Check.due("banked", x.of(1, 2), 1);
        x.ship(1, 8, 9);
        Check.due("a ship that is put has fires that burn", x.of(1, 2), 0);
        Check.due("ship 1 away", x.ship(1, -1, 0), true);
        Check.due("gone", x.of(1, 0), -1);
        Check.due("away again", x.ship(1, -1, 99), true);
        x.mark(1, false, true);
        x.ship(0, 0, 5);
        x.watch(0, 1, -1);
        Check.due("out", x.of(0, 3), 1);
        x.ship(0, 1, 5);
        Check.due("put in an exit she is not out", x.of(0, 3), 0);

        int[][] others = {{-1, 0, 0}, {0, -1, 0}, {0, 0, -1}, {100, 0, 0}, {0, 100, 0}, {0, 0, 100}};
        for (int[] o : others) {
            Check.due("costs of others", x.costs(o[0], o[1], o[2]), false);
        }
        x.ship(0, 4, 20);
        x.watch(0, 4, -1);
        Check.due("moored for 1", x.of(0, 1), 19);
        x.watch(0, 5, -1);
        Check.due("held for 2", x.of(0, 1), 17);
        x.watch(0, 6, -1);
        Check.due("banked for nothing", x.of(0, 1), 17);
        x.watch(0, 7, -1);
        Check.due("raised for 3", x.of(0, 1), 14);
        Check.due("costs", x.costs(0, 4, 99), true);
        x.watch(0, 4, -1);
        Check.due("moored for 0", x.of(0, 1), 14);
        x.watch(0, 5, -1);
        Check.due("held for 4", x.of(0, 1), 10);
        x.watch(0, 6, -1);
        Check.due("99 is too much to raise", x.can(0, 7), false);
        Check.due("wind(3)", x.wind(3), true);
        Check.due("about(3)", x.about(3), 3);
        Check.due("wind(4)", x.wind(4), false);
        Check.due("wind(-1)", x.wind(-1), false);
        Check.due("about(3)", x.about(3), 3);
    }

    private static void about() {
        ThroughPack x = new ThroughPack(5, 4);
        x.watch(2, -1, -1);
        Check.read(x, "may 1=1;");
        Check.read(x, "");
        x.by(1);
        x.ahead(6, 1);
        x.order(3, 5);
        x.home(19);
        x.look(3, 3);
        x.feed(0, 0, 0, 0, 0);
        x.end(17);
        x.edge(8);
        int[] due = {5, 4, 1, 2, 2, 1, 7, 4, 19, 1, 17, 8};
        for (int what = 0; what < due.length; what++) {
            Check.due("about(" + what + ")", x.about(what), due[what]);
        }
        for (int what : new int[] {-1, 12, LOW, HIGH}) {
            Check.due("about of others", x.about(what), -2);
        }
    }
}
