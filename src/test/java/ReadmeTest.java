import java.nio.charset.StandardCharsets;
import java.nio.file.Files;
import java.nio.file.Path;
import java.util.ArrayList;
import java.util.List;

/** The examples of README.md: they stand below, line by line, and answer what is said there. */
public final class ReadmeTest {
    public static void main(String[] args) throws Exception {
        planned();
        ruled();
        sameLines();
        Check.end();
    }

    private static void planned() {
        // README
        ThroughPack sea = new ThroughPack(4, 3);   // 12 cells, c = x + 4 y; the ship lies in cell 0 with 20 of coal
        sea.ice(1, 35);                            // too thick to push into without a law
        sea.mark(6, false, true);                  // an exit
        sea.mark(8, true, true);                   // shore
        sea.drift(1, 1, 0);                        // wind 1 carries the ice to the right
        sea.ahead(0, 0);                           // winds to come: 0, then 1, then 0
        sea.ahead(1, 1);
        sea.ahead(2, 0);
        int watches = sea.soonest(0);              // the fewest watches to be out: 3
        int left = sea.soonest(1);                 // with 17 of coal left
        int first = sea.soonest(10);               // beginning with order 2: push to y + 1
        int did = sea.watch(0, first, ThroughPack.NONE);   // a watch by wind 0: bit 0, ship 0 did her order
        int cell = sea.of(0, 0);                   // she is in cell 4 now
        int back = sea.back();                     // and all is as it was when the object was made: watch 0
        // README ends
        Check.due("watches", watches, 3);
        Check.due("left", left, 17);
        Check.due("first", first, 2);
        Check.due("did", did, 1);
        Check.due("cell", cell, 4);
        Check.due("back", back, 0);
        Check.due("no exit, no winds ahead", sea.soonest(0), ThroughPack.NONE);
        Check.due("no winds ahead", sea.about(6), 0);
    }

    // README
    static int read(ThroughPack sea, String laws) {
        sea.end(0);
        for (int at = 0; at < laws.length(); at += 20) {
            sea.feed(four(laws, at), four(laws, at + 4), four(laws, at + 8), four(laws, at + 12), four(laws, at + 16));
        }
        sea.end(laws.length());
        return sea.text();
    }

    static int four(String laws, int at) {
        int bytes = 0;
        for (int i = at; i < at + 4; i++) {
            bytes = bytes << 8 | (i < laws.length() ? laws.charAt(i) : 0);
        }
        return bytes;
    }
    // README ends

    private static void ruled() {
        // README
        ThroughPack sea = new ThroughPack(3, 3);
        int laws = read(sea, "may thick < 50; cost 2 + thick / 25; nips thick > 90; ice thick + 5;");
        int helm = read(sea, "go 1 when x < 2; go 2 when y < 2 and coal > 3;");
        int none = read(sea, "may thick << 50;");  // NONE: a text with a fault is no text
        int what = sea.fault(0);                   // 1: a sign that can't stand there
        int place = sea.fault(1);                  // 11: the second <
        sea.by(laws);                              // these laws rule
        sea.mark(8, false, true);
        int ends = sea.run(helm, 0, 10, 0);        // a run by the other text, seed 0, 10 watches at most: 1, she is out
        int took = sea.run(helm, 0, 10, 1);        // in 4 watches
        int coal = sea.run(helm, 0, 10, 3);        // with 12 of her coal
        // README ends
        Check.due("laws", laws, 0);
        Check.due("helm", helm, 1);
        Check.due("none", none, ThroughPack.NONE);
        Check.due("what", what, 1);
        Check.due("place", place, 11);
        Check.due("ends", ends, 1);
        Check.due("took", took, 4);
        Check.due("coal", coal, 12);
    }

    private static List<String> between(String file, String from, String to) throws Exception {
        List<String> found = new ArrayList<>();
        boolean inside = false;
        for (String line : Files.readAllLines(Path.of(file), StandardCharsets.UTF_8)) {
            String bare = line.trim();
            if (bare.equals(inside ? to : from)) {
                inside = !inside;
            } else if (inside) {
                found.add(bare);
            }
        }
        return found;
    }

    private static void sameLines() throws Exception {
        List<String> told = between("README.md", "```java", "```");
        List<String> tried = between("src/test/java/ReadmeTest.java", "// README", "// README ends");
        Check.due("lines of examples", told.size(), tried.size());
        for (int i = 0; i < told.size() && i < tried.size(); i++) {
            Check.due("README.md: " + told.get(i) + " is " + tried.get(i), told.get(i).equals(tried.get(i)), true);
        }
    }
}
