/** Promises 16 to 18: what a ship can do, a watch, and what is told of a ship. */
public final class WatchTest {
    public static void main(String[] args) {
        can();
        canByText();
        theIceGoes();
        iceClause();
        drifting();
        nipping();
        secondShip();
        limits();
        Check.end();
    }

    private static void can() {
        ThroughPack x = new ThroughPack(3, 3);
        x.ship(0, 4, 4);
        x.ice(1, 30);
        x.ice(5, 31);
        x.ice(7, 29);
        boolean[] due = {true, false, true, true, true, true, true, false};
        for (int order = 0; order < 8; order++) {
            Check.due("can(0, " + order + ")", x.can(0, order), due[order]);
        }
        x.ship(0, 4, 3);
        Check.due("30 takes 4", x.can(0, 0), false);
        Check.due("29 takes 3", x.can(0, 2), true);
        x.ship(0, 4, 0);
        Check.due("0 takes 1", x.can(0, 3), false);
        Check.due("moor without coal", x.can(0, 4), false);
        Check.due("bank without coal", x.can(0, 6), true);
        x.ship(0, 4, 1);
        Check.due("moor by 1", x.can(0, 4), true);
        Check.due("hold by 1", x.can(0, 5), false);
        int[][] others = {{2, 6}, {-1, 6}, {0, 8}, {0, -1}, {1, 6}, {Integer.MIN_VALUE, 6}, {0, Integer.MAX_VALUE}};
        for (int[] o : others) {
            Check.due("can of others", x.can(o[0], o[1]), false);
        }
        x.ship(0, 0, 20);
        Check.due("no cell above", x.can(0, 0), false);
        Check.due("no cell to the left", x.can(0, 3), false);
        x.ship(0, 8, 20);
        Check.due("no cell to the right", x.can(0, 1), false);
        Check.due("no cell below", x.can(0, 2), false);
        Check.due("bank", x.watch(0, 6, -1), 1);
        boolean[] banked = {false, false, false, false, false, false, true, true};
        for (int order = 0; order < 8; order++) {
            Check.due("banked can(0, " + order + ")", x.can(0, order), banked[order]);
        }
        Check.due("bank again", x.watch(0, 6, -1), 1);
        Check.due("raise", x.watch(0, 7, -1), 1);
        Check.due("burning", x.of(0, 2), 0);
        Check.due("coal", x.of(0, 1), 17);
    }

    private static void canByText() {
        ThroughPack x = new ThroughPack(3, 3);
        x.ice(1, 50);
        x.ice(3, 20);
        Check.rule(x, "may thick>40;may x=2;cost thick/5;");
        Check.due("one of two clauses", x.can(0, 1), true);
        Check.due("none of them", x.can(0, 2), false);
        x.ship(0, 0, 9);
        Check.due("its cost is 10", x.can(0, 1), false);
        x.by(Check.read(x, "may wind=2 and watch=1;"));
        Check.due("wind 0, watch 0", x.can(0, 2), false);
        x.watch(2, -1, -1);
        Check.due("the wind and the watch as it is", x.can(0, 2), true);
    }

    private static void theIceGoes() {
        ThroughPack x = new ThroughPack(3, 4);
        for (int c = 0; c < 12; c++) {
            x.ice(c, c + 1);
        }
        x.edge(99);
        x.drift(1, -1, 1);
        Check.due("a watch without orders", x.watch(1, -1, -1), 0);
        int[] due = {99, 99, 99, 2, 3, 99, 5, 6, 99, 8, 9, 99};
        for (int c = 0; c < 12; c++) {
            Check.due("ice behind the drift at " + c, x.iceAt(c), due[c]);
        }
        Check.due("the wind", x.about(3), 1);
        Check.due("the watch", x.about(2), 1);
    }

    private static void iceClause() {
        ThroughPack x = new ThroughPack(3, 3);
        x.ice(0, 5);
        x.ice(1, 60);
        x.ice(4, 99);
        x.edge(4);
        x.drift(2, 1, 0);
        // Asked of the ice behind the drift (4 5 60 / 4 0 99 / 4 0 0), of all cells at once, held at 99 and 0.
        Check.rule(x, "ice west+thick*2-1-(wind-2)*50-watch*70;");
        x.watch(2, -1, -1);
        int[] due = {11, 13, 99, 11, 3, 99, 11, 3, 0};
        for (int c = 0; c < 9; c++) {
            Check.due("ice clause at " + c, x.iceAt(c), due[c]);
        }
        x.watch(2, -1, -1);
        Check.due("watch is 1 then", x.iceAt(0), 0);
        Check.due("4 11 13: 11 + 26 - 1 - 70", x.iceAt(2), 0);
    }

    private static void drifting() {
        ThroughPack x = new ThroughPack(3, 3);
        x.drift(1, 1, 0);
        x.drift(2, 1, 1);
        x.mark(2, false, true);
        int[] orders = {4, 6, 7, -1};
        int[] did = {1, 1, 1, 0};
        for (int i = 0; i < orders.length; i++) {
            x.ship(0, 0, 20);
            if (orders[i] == 7) {
                x.watch(0, 6, -1);
            }
            Check.due("order " + orders[i], x.watch(1, orders[i], -1), did[i]);
            Check.due("she drifts", x.of(0, 0), 1);
        }
        x.ship(0, 0, 20);
        Check.due("hold", x.watch(1, 5, -1), 1);
        Check.due("she stays", x.of(0, 0), 0);
        Check.due("push", x.watch(1, 2, -1), 1);
        Check.due("she is where she pushed", x.of(0, 0), 3);
        Check.due("what can't be", x.watch(1, 3, -1), 0);
        Check.due("she drifts then", x.of(0, 0), 4);
        x.ship(0, 1, 20);
        x.watch(1, 4, -1);
        Check.due("drift into an exit", x.of(0, 0), 2);
        Check.due("doesn't let her out", x.of(0, 3), 0);
        x.watch(1, 4, -1);
        Check.due("she can't leave the sea by drift", x.of(0, 0), 2);
        x.ship(0, 2, 20);
        x.watch(2, 4, -1);
        Check.due("nor by half of it", x.of(0, 0), 2);
        x.ship(0, 1, 20);
        Check.due("push into the exit", x.watch(1, 1, -1), 1);
        Check.due("out", x.of(0, 3), 1);
        Check.due("in it", x.of(0, 0), 2);
        x.drift(3, 0, 1);
        Check.due("out: no order", x.watch(3, 6, -1), 0);
        Check.due("out: no drift", x.of(0, 0), 2);
        for (int order = 0; order < 8; order++) {
            Check.due("out: can " + order, x.can(0, order), false);
        }
    }

    private static void nipping() {
        ThroughPack x = new ThroughPack(3, 3);
        x.drift(1, 1, 0);
        x.ice(3, 80);
        x.ship(0, 4, 20);
        Check.rule(x, "nips thick>70;nips wind=3 and watch=2;");
        x.image();
        Check.due("she holds as ice comes to her", x.watch(1, 5, -1), 1);
        Check.due("nipped", x.of(0, 3), 2);
        for (int order = 0; order < 8; order++) {
            Check.due("nipped: can " + order, x.can(0, order), false);
        }
        Check.due("nipped: no order", x.watch(1, 6, -1), 0);
        Check.due("nipped: no drift", x.of(0, 0), 4);
        Check.due("the ice has gone on, she is nipped still", x.of(0, 3), 2);
        x.back();
        x.watch(1, 4, -1);
        Check.due("she drifts ahead of it", x.of(0, 3), 0);
        Check.due("to cell 5", x.of(0, 0), 5);
        x.back();
        x.watch(3, 4, -1);
        x.watch(3, 4, -1);
        Check.due("watch 0, 1", x.of(0, 3), 0);
        x.watch(3, 4, -1);
        Check.due("wind and watch of that very watch", x.of(0, 3), 2);
        x.back();
        x.watch(0, 4, -1);
        x.watch(0, 4, -1);
        x.watch(2, 4, -1);
        Check.due("another wind", x.of(0, 3), 0);
        x.back();
        x.mark(3, false, true);
        x.by(Check.read(x, "may 1=1;nips 1=1;"));
        x.watch(0, 3, -1);
        Check.due("who is out isn't nipped", x.of(0, 3), 1);
        x.back();
        x.by(-1);
        x.ice(4, 99);
        x.watch(0, 5, -1);
        Check.due("without a nips clause never", x.of(0, 3), 0);
    }

    private static void secondShip() {
        ThroughPack x = new ThroughPack(4, 3);
        x.ice(4, 0);
        x.ice(5, 90);
        x.ice(6, 30);
        x.ship(0, 5, 20);
        x.ship(1, 4, 1);
        Check.due("90 is too thick for her alone", x.can(1, 1), false);
        x.image();
        Check.due("both push", x.watch(0, 1, 1), 3);
        Check.due("ship 1 in the lead", x.of(1, 0), 5);
        Check.due("it took 1", x.of(1, 1), 0);
        Check.due("ship 0", x.of(0, 0), 6);
        Check.due("the ice is as it was", x.iceAt(5), 90);
        x.back();
        Check.due("ship 0 holds", x.watch(0, 5, 1), 1);
        Check.due("no lead", x.of(1, 0), 4);
        x.back();
        Check.due("ship 0 moors", x.watch(0, 4, 1), 1);
        Check.due("no lead", x.of(1, 0), 4);
        x.back();
        x.ice(6, 31);
        Check.due("ship 0 can't push", x.watch(0, 1, 1), 0);
        x.back();
        Check.due("no order of ship 0", x.watch(0, -1, 4), 2);
        x.back();
        x.mark(6, false, true);
        Check.due("ship 0 goes out and leaves a lead", x.watch(0, 1, 1), 3);
        Check.due("out", x.of(0, 3), 1);
        Check.due("not out", x.of(1, 3), 0);
        x.back();
        // Beside the lead its ice is 0 too: cell 1's south is 0 in this part alone.
        Check.rule(x, "may x=2;may south=0 and thick=0;cost 0;");
        x.ship(1, 0, 0);
        Check.due("south of cell 1 is 90", x.can(1, 1), false);
        Check.due("0 in the lead", x.watch(0, 1, 1), 3);
        x.back();
        x.by(-1);
        x.ship(1, 5, 3);
        Check.due("ship 1 where ship 0 lies", x.watch(0, 6, 6), 3);
        x.ship(0, 0, 0);
        x.mark(6, false, true);
        x.drift(1, 0, 1);
        Check.rule(x, "nips x=1;");
        Check.due("ship 1 raises", x.watch(1, 6, 7), 3);
        Check.due("she drifts", x.of(1, 0), 9);
        Check.due("she is nipped alone", x.of(1, 3), 2);
        Check.due("ship 0 is not", x.of(0, 3), 0);
        x.ship(1, -1, 0);
        Check.due("an order of one who isn't there", x.watch(0, -1, 6), 0);
    }

    private static void limits() {
        ThroughPack x = new ThroughPack(3, 3);
        int[][] others = {{-1, 0, 0}, {4, 0, 0}, {0, -2, 0}, {0, 8, 0}, {0, 0, -2}, {0, 0, 8}};
        for (int[] o : others) {
            Check.due("watch of others", x.watch(o[0], o[1], o[2]), -1);
        }
        Check.due("none went by", x.about(2), 0);
        for (int i = 0; i < 99; i++) {
            Check.due("watch " + i, x.watch(0, 6, -1), 1);
        }
        Check.due("watch 99", x.watch(0, 6, -1), -1);
        Check.due("about(2)", x.about(2), 99);
        int[][] asks = {{2, 0}, {-1, 0}, {0, 4}, {0, -1}, {1, 0}};
        for (int[] a : asks) {
            Check.due("of others", x.of(a[0], a[1]), -1);
        }
    }
}
