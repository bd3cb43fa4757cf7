import java.lang.reflect.Field;
import java.lang.reflect.Method;
import java.lang.reflect.Modifier;
import java.nio.charset.StandardCharsets;
import java.nio.file.Files;
import java.nio.file.Path;
import java.util.ArrayList;
import java.util.Arrays;
import java.util.List;
import java.util.TreeSet;
import java.util.regex.Matcher;
import java.util.regex.Pattern;

/** The public face, and those rules of LANGUAGE.md that can be seen from the source or by reflection. */
public final class LanguageTest {
    private static final String FACE = "ice(int,int) iceAt(int) mark(int,boolean,boolean) edge(int) drift(int,int,int) "
            + "chances(int,int,int,int,int) ship(int,int,int) costs(int,int,int) wind(int) "
            + "feed(int,int,int,int,int) end(int) text() fault(int) by(int) can(int,int) watch(int,int,int) "
            + "of(int,int) ahead(int,int) many(int,int) soonest(int) least() order(int,int) told(int) home(int) "
            + "last() walk(int) leave() winter(int) surest(int,int) leads(int) prior(int,int) look(int,int) "
            + "think(int,int) run(int,int,int,int) runs(int,int,int,int,int) image() back() about(int)";

    public static void main(String[] args) throws Exception {
        face();
        classes();
        String source = Files.readString(Path.of("src/main/java/ThroughPack.java"), StandardCharsets.ISO_8859_1);
        words(source);
        lengths(source);
        Check.end();
    }

    private static String told(Method method) {
        List<String> types = new ArrayList<>();
        for (Class<?> type : method.getParameterTypes()) {
            types.add(type.getName());
        }
        return method.getName() + "(" + String.join(",", types) + ")";
    }

    private static void face() throws Exception {
        TreeSet<String> open = new TreeSet<>();
        for (Method method : ThroughPack.class.getDeclaredMethods()) {
            if (!Modifier.isPrivate(method.getModifiers())) {
                open.add(told(method));
            }
        }
        TreeSet<String> due = new TreeSet<>(Arrays.asList(FACE.split(" ")));
        Check.due("the face: " + open, open.equals(due), true);
        Check.due("NONE", ThroughPack.class.getField("NONE").getInt(null), -1);
        for (Field field : ThroughPack.class.getDeclaredFields()) {
            boolean closed = Modifier.isPrivate(field.getModifiers()) || field.getName().equals("NONE");
            Check.due("rule 1, field " + field.getName(), closed, true);
        }
        Check.due("public", Modifier.isPublic(ThroughPack.class.getModifiers()), true);
        Check.due("final", Modifier.isFinal(ThroughPack.class.getModifiers()), true);
        Check.due("one constructor", ThroughPack.class.getDeclaredConstructors().length, 1);
    }

    private static void classes() {
        TreeSet<String> names = new TreeSet<>();
        for (String told : FACE.split(" ")) {
            names.add(told.substring(0, told.indexOf('(')));
        }
        Class<?>[] inside = ThroughPack.class.getDeclaredClasses();
        Check.due("rule 11, classes: " + inside.length, inside.length <= 11, true);
        for (Class<?> each : inside) {
            Check.due("rule 2, static " + each, Modifier.isStatic(each.getModifiers()), true);
            for (Method method : each.getDeclaredMethods()) {
                Check.due("rule 1, name of " + method, names.contains(method.getName()), false);
            }
        }
        for (Method method : ThroughPack.class.getDeclaredMethods()) {
            boolean closed = Modifier.isPrivate(method.getModifiers());
            Check.due("rule 1, name of " + method, closed && names.contains(method.getName()), false);
        }
        List<Class<?>> all = new ArrayList<>(Arrays.asList(inside));
        all.add(ThroughPack.class);
        for (Class<?> each : all) {
            int fields = 0;
            for (Field field : each.getDeclaredFields()) {
                boolean still = Modifier.isStatic(field.getModifiers());
                Check.due("rule 5, " + field, !still || Modifier.isFinal(field.getModifiers()), true);
                fields += still ? 0 : 1;
            }
            Check.due("rule 11, fields of " + each, fields <= 20, true);
            for (Method method : each.getDeclaredMethods()) {
                Check.due("rule 11, parameters of " + method, method.getParameterCount() <= 7, true);
            }
        }
    }

    private static void words(String source) {
        for (int i = 0; i < source.length(); i++) {
            if (source.charAt(i) > 126) {
                Check.due("a sign beyond 126 at " + i, source.charAt(i), 0);
            }
        }
        String code = source.replaceAll("(?s)/\\*.*?\\*/", "").replaceAll("//[^\n]*", "");
        code = code.replaceAll("\"[^\"\n]*\"", "\"\"").replaceAll("'(\\\\.|[^'\\\\])'", "' '");
        String[] banned = {"\\bthrows?\\b", "\\btry\\b", "\\bcatch\\b", "\\bfinally\\b", "\\bsynchronized\\b",
            "\\bassert\\b", "->", "::", "\\bpackage\\b", "\\bprotected\\b", "\\bvar\\b", "\\bvolatile\\b", "\\bnative\\b",
            "Exact\\b", "\\bdouble\\b", "\\bfloat\\b", "\\bObject\\b", "\\bMap\\b", "\\bimport\\b", "static\\s*\\{",
            "\\bSystem\\.(?!arraycopy)", "\\bThread\\b", "\\bRuntime\\b", "\\bhashCode\\b", "\\btoString\\b",
            "while \\(true\\)", "for \\(;;\\)"};
        for (String word : banned) {
            Matcher found = Pattern.compile(word).matcher(code);
            Check.due("banned: " + word, found.find(), false);
        }
    }

    /** Methods stay short: from a header with four or eight blanks before it to the brace that closes it. */
    private static void lengths(String source) {
        String[] rows = source.split("\n");
        for (int i = 0; i < rows.length; i++) {
            Matcher head = Pattern.compile("^( {4}| {8})\\w[^;=]*\\(.*\\) \\{$").matcher(rows[i]);
            if (!head.find()) {
                continue;
            }
            int end = i;
            while (end < rows.length - 1 && !rows[end].equals(head.group(1) + "}")) {
                end++;
            }
            Check.due("rule 11, lines of " + rows[i].trim() + ": " + (end - i + 1), end - i + 1 <= 60, true);
        }
    }
}
