/** Promises 37 and 38: an image, and back to it. */
public final class ImageTest {
    public static void main(String[] args) {
        everything();
        again();
        tapeAndFault();
        texts();
        Check.end();
    }

    private static void change(ThroughPack x, int by) {
        x.ice(4, 10 + by);
        x.mark(1, false, by == 1);
        x.mark(3, true, by == 1);
        x.edge(20 + by);
        x.drift(0, by == 1 ? 1 : 0, 0);
        x.chances(0, 5 + by, 5 - by, 0, 0);
        x.ship(0, 4, 30 + by);
        x.ship(1, by == 1 ? 2 : 6, 40 + by);
        x.costs(by, by + 1, by + 2);
        Check.read(x, "go 4 when 1=1;");
        x.by(x.about(4) - 1);
        x.many(0, 0);
        x.ahead(by, by);
        x.order(by, by);
        x.home(by);
        x.prior(2, by);
        x.look(by, 2);
        x.wind(by);
    }

    private static String all(ThroughPack x) {
        StringBuilder all = new StringBuilder();
        for (int what = 0; what < 12; what++) {
            all.append(what == 10 ? 0 : x.about(what)).append(' ');
        }
        for (int c = 0; c < 9; c++) {
            all.append(x.iceAt(c)).append(' ').append(x.leads(c)).append(' ').append(x.think(c, 2)).append(' ');
            all.append(x.think(c, -1)).append(' ');
        }
        for (int ship = 0; ship < 2; ship++) {
            for (int what = 0; what < 4; what++) {
                all.append(x.of(ship, what)).append(' ');
            }
            for (int order = 0; order < 8; order++) {
                all.append(x.can(ship, order) ? 1 : 0).append(' ');
            }
        }
        for (int n = 1; n <= 3; n++) {
            all.append(x.surest(n, 0)).append(' ').append(x.run(0, 5, 3 * n, 2)).append(' ');
            all.append(x.run(0, 5, 3 * n, 3)).append(' ');
        }
        all.append(x.soonest(1)).append(' ').append(x.least()).append(' ').append(x.told(-1)).append(' ');
        return all.append(x.told(1)).append(' ').append(x.last()).append(' ').append(x.walk(0)).toString();
    }

    private static void everything() {
        ThroughPack x = new ThroughPack(3, 3);
        change(x, 1);
        x.watch(1, 6, 6);
        x.watch(2, 4, 7);
        Check.due("image: the watch", x.image(), 2);
        String then = all(x);
        change(x, 2);
        x.watch(3, 4, 4);
        Check.due("it is not as it was", all(x).equals(then), false);
        Check.due("back: the watch", x.back(), 2);
        Check.due("all is so again: " + then + " | " + all(x), all(x).equals(then), true);
        x.watch(0, 1, 1);
        x.ice(8, 77);
        Check.due("back: the image stays", x.back(), 2);
        Check.due("all is so again", all(x).equals(then), true);
    }

    private static void again() {
        ThroughPack x = new ThroughPack(3, 3);
        Check.due("back to the new object", x.back(), 0);
        x.watch(1, -1, -1);
        Check.due("image", x.image(), 1);
        x.watch(2, -1, -1);
        Check.due("a newer one", x.image(), 2);
        x.watch(3, -1, -1);
        Check.due("back to the newer", x.back(), 2);
        Check.due("wind", x.about(3), 2);
    }

    private static void tapeAndFault() {
        ThroughPack x = new ThroughPack(3, 3);
        x.feed(1, 2, 3, 4, 5);
        x.image();
        x.end(7);
        Check.read(x, "may");
        x.feed(1, 2, 3, 4, 5);
        x.back();
        Check.due("the tape is as it is", x.about(10), 20);
        Check.due("so is the fault", x.fault(0), 1);
        Check.due("and its place", x.fault(1), 3);
    }

    private static void texts() {
        ThroughPack x = new ThroughPack(3, 3);
        Check.due("text 0", Check.read(x, "may 1=1;"), 0);
        x.image();
        Check.due("text 1", Check.read(x, "may 1=2;"), 1);
        x.by(1);
        Check.due("it rules", x.can(0, 1), false);
        x.back();
        Check.due("texts", x.about(4), 1);
        Check.due("the text", x.about(5), -1);
        Check.due("none rules", x.can(0, 1), true);
        Check.due("it isn't there", x.by(1), false);
        Check.due("another text 1", Check.read(x, "may x=1;"), 1);
        x.by(1);
        Check.due("it rules", x.can(0, 1), true);
        Check.due("it rules", x.can(0, 2), false);
        x.image();
        x.by(0);
        Check.due("text 0 rules", x.can(0, 2), true);
        x.back();
        Check.due("text 1 rules again", x.can(0, 2), false);
        Check.due("a text with a fault spoils none", Check.read(x, "may 1=1;may x=2;may ?"), -1);
        Check.due("text 1 rules still", x.can(0, 1), true);
        Check.due("text 1 rules still", x.can(0, 2), false);
    }
}
