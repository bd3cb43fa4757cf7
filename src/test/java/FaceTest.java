import java.io.IOException;
import java.lang.reflect.Constructor;
import java.lang.reflect.Method;
import java.lang.reflect.Modifier;
import java.nio.charset.StandardCharsets;
import java.nio.file.Files;
import java.nio.file.Path;
import java.util.TreeSet;
import java.util.regex.Matcher;
import java.util.regex.Pattern;

/**
 * 'What it is' and 'The public face': every line of the document's own face, and the line of code that begins each
 * promise, is in the class, with its answer's type, and nothing else is open; objects know nothing of one another.
 */
public final class FaceTest {
    private static final Path PLACE = Path.of("../shared/DOC.md");
    private static final int CALLS = 512;

    public static void main(String[] args) throws Exception {
        if (Files.exists(PLACE)) {
            String all = Files.readString(PLACE, StandardCharsets.UTF_8);
            faceOfTheDocument(all);
            headsOfPromises(all);
        } else {
            System.out.println("the document isn't at " + PLACE + ": its face was not compared");
        }
        atMost512Calls();
        objectsAreApart();
        sameCallsSameAnswers();
        Check.end();
    }

    /** A line of code without the names of its arguments. */
    private static String withoutNames(String line) {
        return line.replaceAll("(int|boolean) \\w+(?=[,)])", "$1").replace(" ", "").replace(";", "").replace("public", "");
    }

    private static TreeSet<String> faceOfTheClass() {
        TreeSet<String> open = new TreeSet<>();
        for (Method method : ThroughPack.class.getDeclaredMethods()) {
            if (!Modifier.isPrivate(method.getModifiers())) {
                open.add(method.getReturnType().getName() + method.getName() + typesOf(method.getParameterTypes()));
            }
        }
        for (Constructor<?> made : ThroughPack.class.getDeclaredConstructors()) {
            open.add(made.getName() + typesOf(made.getParameterTypes()));
        }
        return open;
    }

    private static String typesOf(Class<?>[] types) {
        StringBuilder row = new StringBuilder("(");
        for (Class<?> type : types) {
            row.append(row.length() > 1 ? "," : "").append(type.getName());
        }
        return row.append(")").toString();
    }

    private static void faceOfTheDocument(String all) {
        int from = all.indexOf("public final class ThroughPack {");
        Check.due("the document has a face", from >= 0, true);
        TreeSet<String> due = new TreeSet<>();
        for (String line : all.substring(from, all.indexOf("```", from)).split("\n")) {
            if (line.endsWith(");")) {
                due.add(withoutNames(line));
            }
        }
        Check.due("calls and the constructor in the document", due.size(), 39);
        Check.due("the face " + faceOfTheClass() + " is " + due, faceOfTheClass().equals(due), true);
        Matcher constant = Pattern.compile("public static final int (\\w+) = (-?\\d+);").matcher(all);
        int many = 0;
        while (constant.find()) {
            many++;
            try {
                int value = ThroughPack.class.getField(constant.group(1)).getInt(null);
                Check.due(constant.group(1), value, Integer.parseInt(constant.group(2)));
            } catch (ReflectiveOperationException e) {
                Check.due("the constant " + constant.group(1), false, true);
            }
        }
        Check.due("constants", ThroughPack.class.getFields().length, many);
    }

    private static void headsOfPromises(String all) throws IOException {
        Matcher head = Pattern.compile("## Promise (\\d+): .*\\s+`([^`]*)`").matcher(all);
        int many = 0;
        while (head.find()) {
            many++;
            Check.due("promise", Integer.parseInt(head.group(1)), many);
            Check.due(head.group(2), faceOfTheClass().contains(withoutNames(head.group(2))), true);
        }
        Check.due("promises", many, 39);
    }

    private static int someCall(ThroughPack x, int i) {
        switch (i % 8) {
            case 0:
                return x.look(i % 9, i % 6);
            case 1:
                return x.watch(i % 4, i % 8, i % 7);
            case 2:
                return x.surest(1 + i % 3, i % 3);
            case 3:
                return x.ahead(i % 12, i % 4);
            case 4:
                return x.feed(i, -i, i * i, Integer.MIN_VALUE, Integer.MAX_VALUE);
            case 5:
                return x.soonest(i % 24);
            case 6:
                return i % 3 == 0 ? x.text() : i % 64 == 6 ? x.back() : x.winter(10 + i % 9);
            default:
                return x.order(i % 12, i % 8);
        }
    }

    /** The last of 512 calls answers as ever; THE WATCH has its most by then, and more may be asked without harm. */
    private static void atMost512Calls() {
        ThroughPack x = new ThroughPack(3, 3);
        for (int i = 0; i < CALLS - 2; i++) {
            due99(i, x.watch(0, ThroughPack.NONE, ThroughPack.NONE));
        }
        Check.due("watch, call 511", x.watch(0, 4, 4), ThroughPack.NONE);
        Check.due("about(2), call 512", x.about(2), 99);
        ThroughPack y = new ThroughPack(6, 6);
        for (int i = 0; i < CALLS; i++) {
            someCall(y, i);
        }
    }

    private static void due99(int i, int bits) {
        Check.due("watch, call " + i, bits, i < 99 ? 0 : ThroughPack.NONE);
    }

    private static void objectsAreApart() {
        ThroughPack x = new ThroughPack(4, 5);
        ThroughPack y = new ThroughPack(4, 5);
        String before = Whole.of(y);
        for (int i = 0; i < 200; i++) {
            someCall(x, i);
        }
        x.image();
        Check.due("an object whose fellow was used", Whole.of(y).equals(before), true);
        y.back();
        Check.due("and its image", Whole.of(y).equals(before), true);
        Check.due("its tape", y.about(10), 0);
        Check.due("its fault", y.fault(0), ThroughPack.NONE);
    }

    private static void sameCallsSameAnswers() {
        ThroughPack x = new ThroughPack(5, 4);
        ThroughPack y = new ThroughPack(5, 4);
        for (int i = 0; i < 500; i++) {
            Check.due("call " + i, someCall(x, i), someCall(y, i));
        }
        Check.due("all of both", Whole.of(x).equals(Whole.of(y)), true);
    }
}
