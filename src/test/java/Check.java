import java.lang.reflect.Method;

/** Counts answers that are not as due; shared by the tests. */
final class Check {
    private static int wrong = 0;
    private static String sentence = "";

    private Check() { }

    /** The sentence of the document that is tested from here on; told with each wrong answer. */
    static void under(String words) {
        sentence = words;
    }

    static void due(String call, long got, long want) {
        if (got != want) {
            wrong++;
            System.out.println(call + " answered " + got + ", due is " + want);
            if (!sentence.isEmpty()) {
                System.out.println("    under: " + sentence);
            }
        }
    }

    static void due(String call, boolean got, boolean want) {
        due(call, got ? 1 : 0, want ? 1 : 0);
    }

    /** A call by its name; a boolean argument is a number that isn't 0. */
    static Object on(Object it, String name, int... numbers) {
        for (Method method : it.getClass().getDeclaredMethods()) {
            Class<?>[] types = method.getParameterTypes();
            if (!method.getName().equals(name) || types.length != numbers.length) {
                continue;
            }
            Object[] given = new Object[types.length];
            for (int i = 0; i < types.length; i++) {
                given[i] = types[i] == boolean.class ? (Object) (numbers[i] != 0) : (Object) numbers[i];
            }
            try {
                return method.invoke(it, given);
            } catch (ReflectiveOperationException e) {
                throw new IllegalStateException(name, e);
            }
        }
        throw new IllegalStateException(name);
    }

    /** The same as a number: true is 1. */
    static long call(ThroughPack x, String name, int... numbers) {
        Object got = on(x, name, numbers);
        return got instanceof Boolean ? ((Boolean) got ? 1 : 0) : (Integer) got;
    }

    /** Puts a text of up to 300 signs on the tape, in place of what is there. */
    static void feed(ThroughPack x, String text) {
        x.end(0);
        for (int at = 0; at < text.length(); at += 20) {
            int[] five = new int[5];
            for (int i = 0; i < 20; i++) {
                int sign = at + i < text.length() ? text.charAt(at + i) : 0;
                five[i / 4] = five[i / 4] << 8 | sign;
            }
            x.feed(five[0], five[1], five[2], five[3], five[4]);
        }
        x.end(text.length());
    }

    /** Reads a text: its number. */
    static int read(ThroughPack x, String text) {
        feed(x, text);
        return x.text();
    }

    /** Reads a text and lets it rule. */
    static void rule(ThroughPack x, String text) {
        int number = read(x, text);
        due("a text that is good: " + text, x.fault(0), 0);
        due("by", x.by(number), true);
    }

    /** Winds ahead, so many as are given. */
    static void ahead(ThroughPack x, int... winds) {
        x.many(0, 0);
        for (int k = 0; k < winds.length; k++) {
            due("ahead", x.ahead(k, winds[k]), k + 1);
        }
    }

    static void orders(ThroughPack x, int... orders) {
        for (int k = 0; k < orders.length; k++) {
            due("order", x.order(k, orders[k]), k + 1);
        }
    }

    static void end() {
        System.out.println(wrong == 0 ? "all answers are as due" : wrong + " answers are not as due");
        if (wrong != 0) {
            System.exit(1);
        }
    }
}
