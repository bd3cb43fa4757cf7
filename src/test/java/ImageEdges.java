/** Edges of promises 37 and 38: an image, and back to it. */
final class ImageEdges {
    /** The last of the changes. */
    private static final int LAST = 36;

    private ImageEdges() { }

    static void all() {
        image();
        tape();
        texts();
        stays();
    }

    private static ThroughPack changed() {
        ThroughPack x = new ThroughPack(3, 3);
        for (int c = 0; c < 9; c++) {
            x.ice(c, 3 * c);
        }
        x.mark(2, false, true);
        x.mark(6, true, true);
        x.edge(12);
        x.drift(1, 1, 0);
        x.drift(2, 0, 1);
        x.chances(0, 5, 5, 0, 0);
        x.ship(0, 3, 33);
        x.ship(1, 4, 44);
        x.costs(2, 3, 4);
        Check.rule(x, "may thick<40;cost 2;nips thick>20 and wind=1;go 0 when coal>9;");
        Check.ahead(x, 0, 1, 0, 1);
        Check.orders(x, 5, 4);
        x.home(3);
        x.prior(1, 5);
        x.look(4, 2);
        x.look(3, 1);
        x.watch(1, 6, 5);
        x.watch(0, 7, 6);
        return x;
    }

    /** One call of each kind that changes something. */
    private static void change(ThroughPack x, int i) {
        switch (i) {
            case 0 -> x.ice(3, 30);
            case 1 -> x.mark(2, false, false);
            case 2 -> x.mark(6, true, false);
            case 3 -> x.edge(50);
            case 4 -> x.drift(1, 0, 1);
            case 5 -> x.chances(0, 10, 0, 0, 0);
            case 6 -> x.ship(0, 4, 3);
            case 7 -> x.ship(1, -1, 0);
            case 8 -> x.costs(0, 0, 0);
            case 9 -> x.wind(3);
            case 10 -> x.by(-1);
            case 11 -> Check.read(x, "go 5 when 1=1;");
            case 12 -> x.watch(1, 5, 7);
            case 13 -> x.ahead(5, 1);
            case 14 -> x.many(3, 1);
            case 15 -> x.order(1, 2);
            case 16 -> x.home(8);
            case 17 -> x.prior(2, 9);
            case 18 -> x.look(0, 5);
            case 19 -> x.watch(0, 1, 6);
            case 20 -> x.watch(0, 6, -1);
            case 21 -> x.watch(0, -1, 7);
            case 22 -> x.ahead(0, 1);
            case 23 -> x.order(0, 2);
            case 24 -> x.prior(5, 0);
            case 25 -> x.mark(8, false, true);
            case 26 -> x.mark(8, true, true);
            case 27 -> x.ice(8, 99);
            case 28 -> x.drift(0, 1, 1);
            case 29 -> x.costs(9, 3, 4);
            case 30 -> x.costs(2, 9, 4);
            case 31 -> x.costs(2, 3, 9);
            case 32 -> x.drift(2, -1, 0);
            case 33 -> x.drift(3, 0, -1);
            case 34 -> x.chances(1, 0, 0, 10, 0);
            case 35 -> x.chances(2, 0, 0, 0, 10);
            default -> x.chances(3, 10, 0, 0, 0);
        }
    }

    /** What each wind does, told by runs and watches: it can be asked but once. */
    private static String deep(ThroughPack x) {
        StringBuilder all = new StringBuilder(Whole.of(x));
        x.by(-1);
        for (int c = 0; c < 9; c++) {
            x.ship(0, c, 9);
            all.append(x.surest(1, 0)).append(' ').append(x.surest(1, 1)).append(' ').append(x.walk(0)).append(' ');
        }
        x.ship(0, 4, 99);
        for (int order = 4; order < 8; order++) {
            x.watch(0, order, -1);
            all.append(x.of(0, 1)).append(' ');
        }
        x.costs(0, 0, 0);
        for (int v = 3; v >= 0; v--) {
            x.ship(0, 4, 9);
            x.wind(v);
            for (int seed = 0; seed < 10; seed++) {
                all.append(x.run(0, seed, 1, 2)).append(' ').append(x.run(0, seed, 2, 2)).append(' ');
            }
            x.watch(v, 4, 4);
            for (int c = 0; c < 9; c++) {
                all.append(x.iceAt(c)).append(' ');
            }
        }
        return all.toString();
    }

    private static void image() {
        Doc.says(Doc.TERMS, "AN IMAGE: all as it is, but the tape and the latest FAULT.");
        Doc.says(Doc.TERMS, "BACK: all is so again.");
        Doc.says(37, "THE IMAGE is as all is now: THE WATCH.");
        Doc.says(38, "BACK to THE IMAGE (it stays): THE WATCH.");
        String then = deep(changed());
        for (int i = 0; i <= LAST; i++) {
            ThroughPack x = changed();
            Check.due("image", x.image(), 2);
            change(x, i);
            Check.due("change " + i + " is seen", deep(x).equals(then), false);
            x = changed();
            x.image();
            change(x, i);
            change(x, (i + 5) % (LAST + 1));
            Check.due("back", x.back(), 2);
            Check.due("all is so again behind " + i, deep(x).equals(then), true);
        }
        ThroughPack x = new ThroughPack(3, 3);
        Check.due("the image of a new one", x.image(), 0);
        for (int i = 0; i < 99; i++) {
            x.watch(0, -1, -1);
        }
        Check.due("back to 0", x.back(), 0);
        for (int i = 0; i < 99; i++) {
            x.watch(0, -1, -1);
        }
        Check.due("the image of the last WATCH", x.image(), 99);
        Check.due("back to it", x.back(), 99);
        Check.due("no WATCH more", x.watch(0, -1, -1), -1);
    }

    private static void tape() {
        Doc.says(37, "THE IMAGE is as all is now");
        ThroughPack x = new ThroughPack(3, 3);
        x.feed(0x20202020, 0x20202020, 0x20202020, 0x20202020, 0x20202020);
        x.image();
        x.end(3);
        x.back();
        Check.due("the tape is as it was cut", x.about(10), 3);
        Check.due("no FAULT yet", x.fault(0), -1);
        Check.read(x, "go 9 when");
        x.back();
        Check.due("the FAULT stays", x.fault(0), 2);
        Check.due("its place too", x.fault(1), 3);
        Check.feed(x, "may 1=2;");
        x.image();
        Check.due("an image takes nothing off the tape", x.about(10), 8);
        x.back();
        Check.due("nor does back", x.text(), 0);
        Check.due("without", x.fault(0), 0);
        x.back();
        Check.due("the TEXT is gone", x.about(4), 0);
        Check.due("the tape isn't there again", x.about(10), 0);
    }

    private static void texts() {
        ThroughPack x = new ThroughPack(3, 3);
        for (int i = 0; i < 4; i++) {
            Check.read(x, "may x=" + i + ";");
        }
        x.back();
        Check.due("none of four", x.about(4), 0);
        Check.due("by none of them", x.by(0), false);
        Check.due("room for four again", Check.read(x, "may x=1;"), 0);
        x.by(0);
        x.image();
        for (int i = 1; i < 4; i++) {
            Check.due("text", Check.read(x, "may 1=2;"), i);
        }
        Check.due("full", Check.read(x, "may 1=2;"), -1);
        x.by(3);
        Check.due("the fourth rules", x.can(0, 1), false);
        x.back();
        Check.due("the first rules", x.about(5), 0);
        Check.due("as it did", x.can(0, 1), true);
        Check.due("and no more", x.can(0, 2), false);
        Check.due("one TEXT", x.about(4), 1);
        Check.due("runs by one alone", x.run(1, 0, 1, 0), -1);
        Check.due("a FAULT in place of the second", Check.read(x, "may 1=1;may ("), -1);
        Check.due("the first rules still", x.can(0, 2), false);
    }

    private static void stays() {
        ThroughPack x = new ThroughPack(3, 3);
        x.ice(0, 1);
        x.image();
        x.ice(0, 2);
        x.back();
        x.ice(0, 3);
        x.back();
        Check.due("it stays", x.iceAt(0), 1);
        x.ice(0, 4);
        x.image();
        x.ice(0, 5);
        x.back();
        Check.due("a newer one in its place", x.iceAt(0), 4);
        x.back();
        Check.due("back twice", x.iceAt(0), 4);
    }
}
