import java.util.ArrayList;
import java.util.List;
import java.util.Random;

/** Runs of calls by fixed seeds, on the class and on PlainPack: every answer must be the same. */
public final class RandomTest {
    private static final String[] NAMES = {"thick", "north", "east", "south", "west", "x", "y", "wind", "watch"};
    private static final String[] QUERIES = {"iceAt", "fault", "can", "of", "soonest", "least", "told", "last", "walk",
        "leave", "winter", "surest", "leads", "think", "run", "runs", "about"};
    private static final String[] CHANGES = {"ice", "mark", "edge", "drift", "chances", "ship", "costs", "wind", "by",
        "watch", "ahead", "many", "order", "home", "prior", "look", "image", "back"};

    private final Random random;
    private final ThroughPack real;
    private final PlainPack plain;
    private final List<String> log = new ArrayList<>();
    private final int cells;
    private boolean wrong;

    private RandomTest(long seed) {
        random = new Random(seed);
        int w = 1 + random.nextInt(7);
        int h = 1 + random.nextInt(7);
        real = new ThroughPack(w, h);
        plain = new PlainPack(w, h);
        cells = real.about(0) * real.about(1);
        log.add("new " + w + " " + h);
    }

    public static void main(String[] args) {
        int bad = 0;
        int from = args.length > 0 ? Integer.parseInt(args[0]) : 0;
        int many = args.length > 1 ? Integer.parseInt(args[1]) : 250;
        for (int seed = from; seed < from + many && bad < 3; seed++) {
            if (!new RandomTest(seed).holds()) {
                System.out.println("seed " + seed + " is not as due");
                bad++;
            }
        }
        System.out.println(bad == 0 ? "the class answers as the plain one does" : "it does not");
        if (bad != 0) {
            System.exit(1);
        }
    }

    private boolean holds() {
        setUp();
        for (int i = 0; i < 110 && !wrong; i++) {
            int dice = random.nextInt(20);
            if (dice == 0) {
                feedText(random.nextInt(3) == 0);
            } else if (dice < 8) {
                ask(CHANGES[random.nextInt(CHANGES.length)]);
            } else if (dice < 10) {
                ask("watch");
            } else {
                ask(QUERIES[random.nextInt(QUERIES.length)]);
            }
        }
        return !wrong;
    }

    private void setUp() {
        if (random.nextInt(5) > 0) {
            feedText(false);
            if (random.nextInt(4) > 0) {
                call("by", 0);
            }
        }
        for (int c = 0; c < cells; c++) {
            call("ice", c, random.nextInt(random.nextInt(3) == 0 ? 100 : 35));
            if (random.nextInt(8) == 0) {
                call("mark", c, random.nextInt(2), 1);
            }
        }
        for (int v = 0; v < 4; v++) {
            call("drift", v, random.nextInt(3) - 1, random.nextInt(3) - 1);
            int a = random.nextInt(11);
            int b = random.nextInt(11 - a);
            int c = random.nextInt(11 - a - b);
            call("chances", v, a, b, c, 10 - a - b - c);
        }
        call("edge", random.nextInt(40));
        call("ship", 0, random.nextInt(cells), random.nextInt(30));
        int n = random.nextInt(random.nextInt(4) == 0 ? 13 : 6);
        for (int k = 0; k < n; k++) {
            call("ahead", k, random.nextInt(4));
            call("order", k, random.nextInt(8));
        }
    }

    /** Mostly what is fit, now and then what is not. */
    private int pick(int low, int high) {
        int odd = random.nextInt(40);
        if (odd == 0) {
            return low - 1;
        }
        if (odd == 1) {
            return high + 1;
        }
        if (odd == 2) {
            return random.nextInt();
        }
        return low + random.nextInt(high - low + 1);
    }

    private void ask(String name) {
        int c = cells - 1;
        switch (name) {
            case "ice" -> call(name, pick(0, c), pick(0, 99));
            case "iceAt", "home", "leads" -> call(name, pick(name.equals("leads") ? -1 : 0, c));
            case "mark" -> call(name, pick(0, c), random.nextInt(2), random.nextInt(2));
            case "edge" -> call(name, pick(0, 99));
            case "drift" -> call(name, pick(0, 3), pick(-1, 1), pick(-1, 1));
            case "chances" -> call(name, pick(0, 3), pick(0, 10), pick(0, 5), pick(0, 1), pick(0, 1));
            case "ship" -> call(name, pick(0, 1), pick(-1, c), pick(0, 40));
            case "costs" -> call(name, pick(0, 4), pick(0, 4), pick(0, 6));
            case "wind" -> call(name, pick(0, 3));
            case "by" -> call(name, pick(-1, 3));
            case "fault" -> call(name, pick(0, 1));
            case "can" -> call(name, pick(0, 1), pick(0, 7));
            case "watch" -> call(name, pick(0, 3), pick(-1, 7), pick(-1, 7));
            case "of" -> call(name, pick(0, 1), pick(0, 3));
            case "ahead" -> call(name, pick(0, 4), pick(0, 3));
            case "many" -> call(name, pick(0, 5), pick(0, 5));
            case "soonest" -> call(name, random.nextInt(2) == 0 ? pick(0, 1) : pick(10, 15));
            case "order" -> call(name, pick(0, 4), pick(0, 7));
            case "told" -> call(name, pick(-1, 5));
            case "walk" -> call(name, pick(0, 5));
            case "winter" -> call(name, random.nextInt(2) == 0 ? pick(0, 1) : pick(10, 10 + c));
            case "surest" -> call(name, pick(1, random.nextInt(4) == 0 ? 3 : 2), pick(0, 2));
            case "prior" -> call(name, pick(0, 5), pick(0, 9));
            case "look" -> call(name, pick(0, Math.min(c, 8)), pick(0, 5));
            case "think" -> call(name, pick(0, Math.min(c, 8)), pick(-1, 5));
            case "run" -> call(name, pick(0, 1), pick(0, 9999), pick(1, 40), pick(0, 3));
            case "runs" -> call(name, pick(0, 1), pick(0, 9999), pick(1, 6), pick(1, 15), pick(0, 2));
            case "about" -> call(name, pick(0, 11));
            default -> call(name);
        }
    }

    private void feedText(boolean spoilt) {
        StringBuilder text = new StringBuilder();
        int many = random.nextInt(8);
        boolean cost = false;
        boolean ice = false;
        for (int i = 0; i < many && text.length() < 220; i++) {
            int dice = random.nextInt(8);
            if (dice < 2) {
                text.append("may ").append(either(false));
            } else if (dice == 2) {
                text.append("nips ").append(random.nextBoolean() ? "thick>" + random.nextInt(70) : either(false));
            } else if (dice == 3) {
                text.append("walk ").append(either(false));
            } else if (dice == 4 && !cost) {
                text.append("cost ").append(sum(2, false));
                cost = true;
            } else if (dice == 5 && !ice) {
                text.append("ice ").append(random.nextBoolean() ? "(thick*2+north+west)/4+wind" : sum(2, false));
                ice = true;
            } else {
                text.append("go ").append(random.nextInt(8)).append(" when ").append(either(true));
            }
            text.append(random.nextInt(3) == 0 ? " ;\n" : ";");
        }
        for (int i = 0; spoilt && i < 1 + random.nextInt(3) && text.length() > 0; i++) {
            spoil(text);
        }
        feedBytes(text.toString());
    }

    private void spoil(StringBuilder text) {
        String[] bits = {"(", ")", "-", "not ", ";", "1000", "8", " or ", "and", "=", "<", ">=", "coal", "banked",
            " may ", "ice", "cost 1;", "go 1 when", "Thick", "\t", "x", "((((((((", "--------", "not not not not ",
            "may 1=1;may 1=1;may 1=1;may 1=1;may 1=1;may 1=1;"};
        int at = random.nextInt(text.length());
        int dice = random.nextInt(3);
        if (dice == 0) {
            text.deleteCharAt(at);
        } else {
            text.insert(at, bits[random.nextInt(bits.length)]);
        }
    }

    private void feedBytes(String text) {
        String tape = text.length() > 300 ? text.substring(0, 300) : text;
        call("end", 0);
        for (int at = 0; at < tape.length(); at += 20) {
            int[] five = new int[5];
            for (int i = 0; i < 20; i++) {
                int sign = at + i < tape.length() ? tape.charAt(at + i) : 0;
                five[i / 4] = five[i / 4] << 8 | sign;
            }
            call("feed", five);
        }
        call("end", tape.length());
        log.add("# " + tape);
        call("text");
        call("fault", 0);
        call("fault", 1);
    }

    private String either(boolean go) {
        StringBuilder all = new StringBuilder(ask(go));
        while (random.nextInt(3) == 0) {
            all.append(random.nextBoolean() ? " or " : " and ").append(ask(go));
        }
        return all.toString();
    }

    private String ask(boolean go) {
        String[] signs = {"<", "<=", ">", ">=", "=", "#"};
        String not = random.nextInt(4) == 0 ? "not " : "";
        return not + sum(1, go) + signs[random.nextInt(6)] + sum(1, go);
    }

    private String sum(int depth, boolean go) {
        StringBuilder all = new StringBuilder(one(depth, go));
        while (random.nextInt(3) == 0) {
            all.append("+-*/".charAt(random.nextInt(4))).append(one(depth, go));
        }
        return all.toString();
    }

    private String one(int depth, boolean go) {
        int dice = random.nextInt(10);
        if (depth > 0 && dice == 0) {
            return "(" + sum(depth - 1, go) + ")";
        }
        if (depth > 0 && dice == 1) {
            return "-" + one(depth - 1, go);
        }
        if (dice < 5) {
            return "" + random.nextInt(random.nextInt(4) == 0 ? 1000 : 40);
        }
        if (go && random.nextInt(3) == 0) {
            return random.nextBoolean() ? "coal" : "banked";
        }
        return NAMES[random.nextInt(NAMES.length)];
    }

    private void call(String name, int... numbers) {
        if (wrong) {
            return;
        }
        Object want = Check.on(plain, name, numbers);
        Object got = Check.on(real, name, numbers);
        log.add(name + java.util.Arrays.toString(numbers) + " " + got);
        if (!want.equals(got)) {
            wrong = true;
            for (String row : log) {
                System.out.println(row);
            }
            System.out.println("due is " + want);
        }
    }
}
