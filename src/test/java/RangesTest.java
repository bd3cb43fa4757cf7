/**
 * Every argument of every call at both ends of its range, one beyond each, and as far off as an int goes: what is
 * refused answers as the document says and changes nothing, what is fit is taken.
 */
public final class RangesTest {
    private static final int LOW = Integer.MIN_VALUE;
    private static final int HIGH = Integer.MAX_VALUE;

    /** 3 by 4 cells, 5 winds ahead, 3 told orders, 2 texts, 3 looks, 20 bytes on the tape; every plan has an answer. */
    private static ThroughPack rich() {
        ThroughPack x = new ThroughPack(3, 4);
        for (int c = 0; c < 12; c++) {
            x.ice(c, 10 + c);
        }
        x.mark(11, false, true);
        x.mark(4, true, true);
        x.edge(17);
        for (int v = 0; v < 4; v++) {
            x.drift(v, v == 1 ? 1 : 0, v == 2 ? 1 : 0);
            x.chances(v, 4, 3, 2, 1);
        }
        x.ship(0, 3, 40);
        x.ship(1, 7, 41);
        x.costs(2, 3, 4);
        Check.rule(x, "may thick<60;cost 1+thick/20;nips thick>25 and wind=3;go 2 when watch>2;");
        Check.read(x, "may ?");
        Check.read(x, "go 1 when x<2;go 5 when coal>9;");
        x.watch(0, 5, 6);
        x.watch(0, 5, -1);
        for (int k = 0; k < 5; k++) {
            x.ahead(k, k % 3);
        }
        Check.orders(x, 5, 4, 5);
        x.home(3);
        x.prior(2, 7);
        x.look(3, 2);
        x.look(4, 3);
        x.look(3, 1);
        x.feed(1, 2, 3, 4, 5);
        return x;
    }

    private static String all(ThroughPack x) {
        return x.about(10) + " " + x.fault(0) + " " + x.fault(1) + " " + Whole.of(x);
    }

    private static String told(String name, int[] numbers) {
        return name + java.util.Arrays.toString(numbers);
    }

    private static void refused(String name, int answer, int... numbers) {
        ThroughPack x = rich();
        Check.due(told(name, numbers), Check.call(x, name, numbers), answer);
        Check.due(told(name, numbers) + " changes nothing", all(x).equals(all(rich())), true);
    }

    private static int[] with(int[] fit, int i, int v) {
        int[] changed = fit.clone();
        changed[i] = v;
        return changed;
    }

    /** From low to high an argument is taken, the others being as they are; beyond it is refused. */
    private static void range(String name, int refusal, int i, int low, int high, int... fit) {
        for (int v : new int[] {low - 1, high + 1, LOW, HIGH}) {
            refused(name, refusal, with(fit, i, v));
        }
        for (int v : new int[] {low, high}) {
            int[] taken = with(fit, i, v);
            boolean so = Check.call(rich(), name, taken) != refusal;
            Check.due(told(name, taken) + " is taken", so, true);
        }
    }

    public static void main(String[] args) {
        Check.due("nothing is left to chance", all(rich()).equals(all(rich())), true);
        sea();
        winds();
        ships();
        texts();
        plans();
        moreOfPlans();
        looksAndRuns();
        Check.end();
    }

    private static void sea() {
        range("ice", 0, 0, 0, 11, 5, 50);
        range("ice", 0, 1, 0, 99, 5, 50);
        range("iceAt", -1, 0, 0, 11, 5);
        for (int flags = 0; flags < 4; flags++) {
            range("mark", 0, 0, 0, 11, 5, flags & 1, flags >> 1);
        }
        range("edge", 0, 0, 0, 99, 5);
        range("home", 0, 0, 0, 11, 5);
    }

    private static void winds() {
        for (int i = 0; i < 3; i++) {
            range("drift", 0, i, i == 0 ? 0 : -1, i == 0 ? 3 : 1, 1, -1, -1);
        }
        range("chances", 0, 0, 0, 3, 1, 1, 2, 3, 4);
        for (int i = 1; i <= 4; i++) {
            // 10 together, but one of them beyond its range.
            refused("chances", 0, with(with(new int[] {1, 0, 0, 0, 0}, i, 11), i == 1 ? 2 : 1, -1));
            refused("chances", 0, with(new int[] {1, 0, 0, 0, 0}, i, 9));
            refused("chances", 0, with(new int[] {1, 0, 0, 0, 0}, i, 11));
            refused("chances", 0, with(with(new int[] {1, 0, 0, 0, 0}, i, HIGH), i == 1 ? 2 : 1, 11 + LOW));
            int[] all = with(new int[] {1, 0, 0, 0, 0}, i, 10);
            Check.due(told("chances", all), Check.call(rich(), "chances", all), 1);
        }
        refused("chances", 0, 1, 0, 0, 0, 0);
        refused("chances", 0, 1, 3, 3, 3, 2);
        refused("chances", 0, 1, 1 << 30, 1 << 30, 1 << 30, (1 << 30) + 10);
        range("wind", 0, 0, 0, 3, 1);
    }

    private static void ships() {
        range("ship", 0, 0, 0, 1, 1, 6, 7);
        range("ship", 0, 1, 0, 11, 0, 6, 7);
        range("ship", 0, 1, -1, 11, 1, 6, 7);
        range("ship", 0, 2, 0, 99, 0, 6, 7);
        range("ship", 0, 2, 0, 99, 1, 6, 7);
        for (int i = 0; i < 3; i++) {
            range("costs", 0, i, 0, 99, 5, 6, 7);
        }
        range("can", 0, 0, 0, 1, 0, 6);
        for (int order : new int[] {-1, 8, LOW, HIGH}) {
            refused("can", 0, 0, order);
            refused("can", 0, 1, order);
        }
        range("watch", -1, 0, 0, 3, 1, 5, 5);
        range("watch", -1, 1, -1, 7, 1, 5, 5);
        range("watch", -1, 2, -1, 7, 1, 5, 5);
        range("of", -1, 0, 0, 1, 0, 1);
        range("of", -1, 1, 0, 3, 0, 1);
        range("of", -1, 1, 0, 3, 1, 1);
    }

    private static void texts() {
        range("end", -1, 0, 0, 20, 7);
        range("fault", -1, 0, 0, 0, 0);
        range("by", 0, 0, -1, 1, 0);
        range("about", -2, 0, 0, 11, 5);
    }

    private static void plans() {
        range("ahead", -1, 0, 0, 11, 2, 1);
        range("ahead", -1, 1, 0, 3, 2, 1);
        range("many", 0, 0, 3, 12, 4, 3);
        range("many", 0, 0, 0, 12, 4, 0);
        range("many", 0, 1, 0, 5, 5, 2);
        range("many", 0, 1, 0, 12, 12, 2);
        range("many", 0, 1, 0, 0, 0, 0);
        range("order", -1, 0, 0, 4, 2, 5);
        range("order", -1, 1, 0, 7, 2, 5);
        range("told", -1, 0, -1, 2, 0);
        range("walk", -1, 0, 0, 3, 1);
        range("surest", -1, 0, 1, 3, 2, 0);
        range("surest", -1, 1, 0, 2, 2, 0);
        range("leads", -1, 0, -1, 11, 5);
    }

    private static void moreOfPlans() {
        range("winter", -1, 0, 0, 1, 1);
        range("winter", -1, 0, 10, 21, 15);
        range("soonest", -1, 0, 0, 1, 1);
        int watches = rich().soonest(0);
        range("soonest", -1, 0, 10, 9 + watches, 10);
        for (int what = 2; what < 10; what++) {
            refused("soonest", -1, what);
            refused("winter", -1, what);
        }
    }

    private static void looksAndRuns() {
        range("prior", 0, 0, 0, 5, 3, 4);
        range("prior", 0, 1, 0, 9, 3, 4);
        range("look", -1, 0, 0, 11, 5, 4);
        range("look", -1, 1, 0, 5, 5, 4);
        range("think", -1, 0, 0, 11, 5, 4);
        range("think", -1, 1, -1, 5, 5, 4);
        range("run", -1, 0, 0, 1, 0, 7, 8, 2);
        range("run", -1, 1, 0, 9999, 0, 7, 8, 2);
        range("run", -1, 2, 1, 40, 0, 7, 8, 2);
        range("run", -1, 3, 0, 3, 0, 7, 8, 2);
        range("runs", -1, 0, 0, 1, 0, 7, 3, 8, 0);
        range("runs", -1, 1, 0, 9997, 0, 7, 3, 8, 0);
        range("runs", -1, 1, 0, 9999, 0, 7, 1, 8, 0);
        range("runs", -1, 1, 0, 9960, 0, 7, 40, 8, 0);
        range("runs", -1, 2, 1, 40, 0, 7, 3, 8, 0);
        range("runs", -1, 2, 1, 5, 0, 9995, 3, 8, 0);
        range("runs", -1, 3, 1, 40, 0, 7, 3, 8, 0);
        range("runs", -1, 4, 0, 2, 0, 7, 3, 8, 0);
    }
}
