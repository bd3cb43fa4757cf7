/** Edges of promises 11 to 15: the tape, texts, their faults and their values. */
final class TextEdges {
    private static final int LOW = Integer.MIN_VALUE;
    private static final int HIGH = Integer.MAX_VALUE;

    private TextEdges() { }

    static void all() {
        feeding();
        ending();
        reading();
        faultOf();
        by();
        tokens();
        clauses();
        grammar();
        names();
        windAndWatch();
        ofGoAlone();
        values();
        firstFault();
        faultOne();
        faultTwo();
        faultThree();
        faultFourToSix();
    }

    private static void blanks(ThroughPack x, int due) {
        int four = 0x20202020;
        Check.due("feed", x.feed(four, four, four, four, four), due);
    }

    private static void feeding() {
        Doc.says(11, "Twenty bytes come behind the tape, the highest of a first: how many it has.");
        ThroughPack x = new ThroughPack(3, 3);
        // "may 1=1;nips 1=1;   ", each byte in its place.
        Check.due("feed", x.feed(0x6d617920, 0x313d313b, 0x6e697073, 0x20313d31, 0x3b202020), 20);
        Check.due("it is read so", x.text(), 0);
        x.by(0);
        x.watch(0, 5, -1);
        Check.due("both clauses were", x.of(0, 3), 2);
        Check.due("a byte above 127", x.feed(0x6d617920, 0x313d313b, 0x80ffffff, -1, -1), 20);
        Check.due("is no TOKEN", x.text(), -1);
        Check.due("at its place", x.fault(1), 8);
        Doc.says(11, "NONE, and none come, if there would be more than 300.");
        for (int i = 1; i <= 15; i++) {
            blanks(x, 20 * i);
        }
        blanks(x, -1);
        Check.due("300", x.about(10), 300);
        x.end(281);
        blanks(x, -1);
        Check.due("281", x.about(10), 281);
        x.end(280);
        blanks(x, 300);
        x.end(299);
        blanks(x, -1);
        Check.due("nothing of it came: all are blanks", x.text(), 1);
        x.end(0);
        blanks(x, 20);
        x.end(1);
        blanks(x, 21);
    }

    private static void ending() {
        Doc.says(12, "The tape has its first n bytes alone: n.");
        ThroughPack x = new ThroughPack(3, 3);
        Check.due("of an empty one", x.end(0), 0);
        Check.feed(x, "may 1=1;?");
        Check.due("as it is", x.end(9), 9);
        Check.due("all but one", x.end(8), 8);
        Check.due("read without the last", x.text(), 0);
        Check.feed(x, "may 1=1;?");
        Check.due("none of it", x.end(0), 0);
        Check.due("an empty TEXT", x.text(), 1);
        Check.feed(x, "may 1=1;may 1=1;");
        x.end(8);
        x.feed(0x3f202020, 0, 0, 0, 0);
        x.end(9);
        Check.due("what comes then comes behind those", x.text(), -1);
        Check.due("at 8", x.fault(1), 8);
        Doc.says(12, "NONE, and nothing is done, if it has not so many, or n is below 0.");
        for (int n : new int[] {1, -1, 300, LOW, HIGH}) {
            Check.due("of an empty one, end(" + n + ")", x.end(n), -1);
        }
        Check.feed(x, "may 1=1;?");
        for (int n : new int[] {10, -1, 20, 301, LOW, HIGH}) {
            Check.due("of 9, end(" + n + ")", x.end(n), -1);
            Check.due("9 still", x.about(10), 9);
        }
        for (int i = 0; i < 14; i++) {
            x.feed(0, 0, 0, 0, 0);
        }
        x.feed(0, 0, 0, 0, 0);
        Check.due("of 289, 290", x.end(290), -1);
        Check.due("of 289, 289", x.end(289), 289);
    }

    private static void reading() {
        Doc.says(13, "The tape (empty then) is a TEXT: its number.");
        Doc.says(Doc.TERMS, "TEXTS 0 .. 3: of up to 300 bytes.");
        ThroughPack x = new ThroughPack(3, 3);
        Check.due("an empty tape is one", x.text(), 0);
        Check.feed(x, " ".repeat(292) + "may 1=2;");
        Check.due("300 bytes", x.about(10), 300);
        Check.due("are one", x.text(), 1);
        Check.due("the tape is empty", x.about(10), 0);
        x.by(1);
        Check.due("read to its end", x.can(0, 1), false);
        Check.feed(x, "cost " + "-1".repeat(147) + ";");
        Check.due("300 bytes of TOKENS", x.text(), 2);
        Doc.says(13, "NONE: it has a FAULT; or (the tape stays) there are 4.");
        Check.feed(x, "may 1=2");
        Check.due("a FAULT", x.text(), -1);
        Check.due("3 TEXTS still", x.about(4), 3);
        Check.due("it was read: the tape is empty", x.about(10), 0);
        Check.due("the fourth", Check.read(x, "may 1=1;"), 3);
        Check.feed(x, "may 1=1;");
        Check.due("there are 4", x.text(), -1);
        Check.due("the tape stays", x.about(10), 8);
        Check.due("as it is", x.end(8), 8);
        Check.due("4 TEXTS", x.about(4), 4);
        Check.due("it wasn't read", x.fault(0), 0);
        x.by(3);
        Check.due("the fourth rules as it was", x.can(0, 1), true);
        x.end(0);
        Check.due("nor is an empty one", x.text(), -1);
    }

    private static void faultOf() {
        Doc.says(14, "Of the latest text that was read: 0 its FAULT (0 without), 1 its place (NONE without).");
        ThroughPack x = new ThroughPack(3, 3);
        Doc.says(14, "NONE for others, and ahead of any.");
        for (int what : new int[] {0, 1, 2, -1}) {
            Check.due("ahead of any", x.fault(what), -1);
        }
        Check.feed(x, "?");
        Check.due("fed, but not read", x.fault(0), -1);
        x.text();
        Check.due("its FAULT", x.fault(0), 1);
        Check.due("its place, the first", x.fault(1), 0);
        for (int what : new int[] {-1, 2, LOW, HIGH}) {
            Check.due("fault(" + what + ")", x.fault(what), -1);
        }
        Check.read(x, "");
        Check.due("without", x.fault(0), 0);
        Check.due("without", x.fault(1), -1);
        Check.read(x, " ".repeat(300 - 3) + "may");
        Check.due("its place, the last there is", x.fault(1), 300);
        for (int i = 0; i < 3; i++) {
            Check.read(x, "");
        }
        Check.due("the fourth has none", x.fault(0), 0);
        Check.read(x, "go 9");
        Check.due("the fifth wasn't read", x.fault(0), 0);
    }

    private static void by() {
        Doc.says(15, "THE TEXT (NONE: none): true.");
        Doc.says(Doc.TERMS, "THE TEXT (told; at first none) rules.");
        ThroughPack x = new ThroughPack(3, 3);
        Check.due("none at first", x.about(5), -1);
        Check.due("none", x.by(-1), true);
        Check.read(x, "may 1=2;");
        Check.due("read, but not told", x.can(0, 1), true);
        Check.due("told", x.by(0), true);
        Check.due("rules", x.can(0, 1), false);
        for (int i = 1; i < 4; i++) {
            Check.due("not there yet", x.by(i), false);
            Check.read(x, i == 3 ? "may x=1;" : "may y=1;");
            Check.due("it rules not by being read", x.about(5), i - 1);
            Check.due("there", x.by(i), true);
        }
        Check.due("the last one", x.can(0, 1), true);
        Check.due("rules", x.can(0, 2), false);
        Doc.says(15, "False for others.");
        for (int text : new int[] {4, -2, 5, LOW, HIGH}) {
            Check.due("by(" + text + ")", x.by(text), false);
            Check.due("THE TEXT stays", x.about(5), 3);
        }
        Check.due("none", x.by(-1), true);
        Check.due("none rules", x.can(0, 2), true);
    }

    /** A text's fault and its place; 0 and -1 for one that is good. */
    private static void fault(String text, int what, int place) {
        ThroughPack x = new ThroughPack(3, 3);
        Check.due("text: " + text, Check.read(x, text), what == 0 ? 0 : -1);
        Check.due("fault of: " + text, x.fault(0), what);
        Check.due("place in: " + text, x.fault(1), place);
    }

    private static void good(String text) {
        fault(text, 0, -1);
    }

    private static void tokens() {
        Doc.says(Doc.TERMS, "TOKENS, blanks (32, 10) aside: letters a .. z, A .. Z one behind the other (one TOKEN), "
                + "digits likewise (NUMBERS, 0 .. 999), <= >= < > = # + - * / ( ) ; (the longest).");
        good("\n\n may \n x\n<=\ny ;\n ");
        good("may x<=y;nips(x)>=-y;go 7when x#y or-x=0;cost x*y/2+1-1;");
        // 9 and 13, 11, 31, 33, 0 and 255 are no blanks.
        for (int sign : new int[] {0, 9, 11, 13, 31, 33, 127, 128, 160, 255}) {
            fault("may x=y;" + (char) sign, 1, 8);
        }
        // Signs next to the letters and digits.
        for (char sign : "/:@[`{".toCharArray()) {
            fault("may x" + sign + "=y;", 1, sign == '/' ? 6 : 5);
        }
        fault("mayx=y;", 1, 0);
        fault("may xy=1;", 1, 4);
        fault("may aZ=1;", 1, 4);
        fault("may zA=1;", 1, 4);
        fault("may x=yZ;", 1, 6);
        good("go7when 12=34;");
        fault("may 1 2=3;", 1, 6);
        fault("may x< =y;", 1, 7);
        fault("may x=<y;", 1, 6);
        fault("may x>==y;", 1, 7);
        fault("may x<>y;", 1, 6);
        good("may 0=999;");
        good("may 00999=0000;");
        fault("may 1000=1;", 2, 4);
        fault("may 01000=1;", 2, 4);
        fault("may X=1;", 1, 4);
        fault("MAY x=1;", 1, 0);
    }

    private static void clauses() {
        Doc.says(Doc.TERMS, "{CLAUSE}, 12 at most: may EITHER ; or nips EITHER ; or walk EITHER ; or go NUMBER when EITHER "
                + "; (0 .. 7) or cost SUM ; or ice SUM ; (these two once each).");
        good("");
        good("may 1=1;nips 1=1;walk 1=1;go 0 when 1=1;go 7 when 1=1;cost 1;ice 1;");
        good("may 1=1;".repeat(12));
        good("nips 1=1;".repeat(10) + "cost 1;ice 1;");
        fault("may 1=1;".repeat(13), 6, 96);
        fault("go 8 when 1=1;", 2, 3);
        good("go 07 when 1=1;");
        fault("go when 1=1;", 1, 3);
        fault("go 7 1=1;", 1, 5);
        fault("go 7 when;", 1, 9);
        fault("may;", 1, 3);
        fault("cost;", 1, 4);
        fault("may 1;", 1, 5);
        fault("cost 1=1;", 1, 6);
        fault("cost 1;cost 1;", 4, 7);
        fault("ice 1;ice 1;", 4, 6);
        good("ice 1;cost 1;");
    }

    private static void grammar() {
        Doc.says(Doc.TERMS, "EITHER: BOTH {or BOTH}.");
        asks("1=2", false);
        asks("1=2 or 1=2 or 1=1", true);
        fault("may 1=1 or;", 1, 10);
        fault("may or 1=1;", 1, 4);
        Doc.says(Doc.TERMS, "BOTH: ASK {and ASK}.");
        asks("1=1 and 1=1 and 1=2", false);
        asks("1=1 or 1=1 and 1=2", true);
        asks("1=2 and 1=1 or 1=1", true);
        asks("1=2 and 1=1 or 1=2 and 1=1", false);
        fault("may 1=1 and;", 1, 11);
        Doc.says(Doc.TERMS, "ASK: not ASK, or SUM one of < <= > >= = # (unlike) SUM.");
        String[] signs = {"<", "<=", ">", ">=", "=", "#"};
        boolean[][] due = {{true, false, false}, {true, true, false}, {false, false, true}, {false, true, true},
            {false, true, false}, {true, false, true}};
        for (int i = 0; i < 6; i++) {
            for (int left = 4; left <= 6; left++) {
                asks(left + signs[i] + 5, due[i][left - 4]);
                asks("not " + left + signs[i] + 5, !due[i][left - 4]);
            }
        }
        asks("not not 1=1", true);
        asks("not 1=1 or 1=1", true);
        asks("not 1=2 and 1=2", false);
        fault("may not;", 1, 7);
        fault("may not (1=1);", 1, 10);
        fault("may 1=1=1;", 1, 7);
        Doc.says(Doc.TERMS, "SUM: PRODUCT {+ or - PRODUCT}.");
        cost("9-4-3", 2);
        cost("9-4+3", 8);
        fault("cost 1+;", 1, 7);
        fault("cost +1;", 1, 5);
        Doc.says(Doc.TERMS, "PRODUCT: ONE {* or / ONE}.");
        cost("2+3*4", 14);
        cost("20-12/4*2", 14);
        cost("60/2/3", 10);
        fault("cost 1*;", 1, 7);
        fault("cost *1;", 1, 5);
        Doc.says(Doc.TERMS, "ONE: NUMBER, NAME, ( SUM ), - ONE.");
        cost("0", 0);
        cost("99", 99);
        cost("(2+3)*4", 20);
        cost("10--5", 15);
        cost("10-(-(5))", 15);
        cost("10*-2+30", 10);
        cost("-(2-9)", 7);
        fault("cost ();", 1, 6);
        fault("cost (1;", 1, 7);
        fault("cost 1);", 1, 6);
        fault("cost -;", 1, 6);
    }

    private static void asks(String ask, boolean due) {
        ThroughPack x = new ThroughPack(3, 3);
        Check.rule(x, "may " + ask + ";");
        Check.due("may " + ask, x.can(0, 1), due);
    }

    /** A sum's value, held between 0 and 99, by the coal that a push takes. */
    private static void cost(String sum, int due) {
        ThroughPack x = new ThroughPack(3, 3);
        x.ship(0, 0, 99);
        Check.rule(x, "cost " + sum + ";");
        x.watch(0, 1, -1);
        Check.due("cost " + sum, 99 - x.of(0, 1), due);
    }

    private static void names() {
        Doc.says(Doc.TERMS, "NAMES of a CELL: thick (its ICE), north east south west (that of the CELLS at y - 1, x + 1, "
                + "y + 1, x - 1; EDGE beyond), x, y;");
        String[] names = {"thick", "north", "east", "south", "west", "x", "y"};
        for (int i = 0; i < names.length; i++) {
            ThroughPack x = new ThroughPack(4, 3);
            for (int c = 0; c < 12; c++) {
                x.ice(c, c + 20);
            }
            x.edge(77);
            Check.rule(x, "ice " + names[i] + ";");
            x.watch(0, -1, -1);
            for (int c = 0; c < 12; c++) {
                int[] due = {c + 20, c < 4 ? 77 : c + 16, c % 4 == 3 ? 77 : c + 21, c > 7 ? 77 : c + 24,
                    c % 4 == 0 ? 77 : c + 19, c % 4, c / 4};
                Check.due(names[i] + " of " + c, x.iceAt(c), due[i]);
            }
        }
        // As big as a sea may be, in its last cell.
        ThroughPack x = new ThroughPack(6, 6);
        x.edge(50);
        x.ice(29, 3);
        x.ice(34, 4);
        Check.rule(x, "ice x*5+y+north+east+south+west;");
        x.watch(0, -1, -1);
        Check.due("CELL 35: 30 and 7 and twice 50, held", x.iceAt(35), 99);
        Check.due("CELL 0: twice 50, held", x.iceAt(0), 99);
        Check.due("CELL 28: 20 and 4 and 3 and 4", x.iceAt(28), 31);
    }

    private static void windAndWatch() {
        Doc.says(Doc.TERMS, "wind, watch (may, cost, walk, go: THE WIND and THE WATCH as the WATCH begins; ice, nips: v and "
                + "that same WATCH);");
        ThroughPack x = new ThroughPack(3, 3);
        x.ship(0, 0, 99);
        x.watch(2, -1, -1);
        Check.rule(x, "may wind=2 and watch=1;cost wind*10+watch;ice wind*10+watch;nips wind=3 and watch=1;");
        Check.due("may is so", x.can(0, 1), true);
        Check.due("the push", x.watch(3, 1, -1), 1);
        Check.due("cost by the old WIND", 99 - x.of(0, 1), 21);
        Check.due("ice by the new one, the same WATCH", x.iceAt(0), 31);
        Check.due("nips likewise", x.of(0, 3), 2);
        x.ship(0, 0, 99);
        Check.due("may isn't so any more", x.can(0, 1), false);

        ThroughPack y = new ThroughPack(3, 3);
        y.wind(2);
        y.mark(1, true, true);
        Check.ahead(y, 3, 3);
        Check.rule(y, "walk wind=2 and watch=0;");
        Check.due("walk by the WIND as it begins", y.walk(0), 1);
        Check.rule(y, "walk wind=3 and watch=1;");
        Check.due("walk in the second WATCH", y.walk(0), 2);
        Check.rule(y, "walk wind=3 and watch=0;");
        Check.due("not by the WIND to come", y.walk(0), -1);
        y.chances(2, 0, 0, 0, 10);
        Check.read(y, "go 1 when wind=2 and watch=0;go 2 when wind=3 and watch=1;");
        y.by(-1);
        Check.due("go by the WIND as it begins", y.run(3, 0, 1, 2), 1);
        Check.due("and in the second WATCH", y.run(3, 0, 2, 2), 4);
    }

    private static void ofGoAlone() {
        Doc.says(Doc.TERMS, "of go alone: coal, banked (1, 0) of the SHIP.");
        String[] heads = {"may ", "nips ", "walk "};
        for (String name : new String[] {"coal", "banked"}) {
            for (String head : heads) {
                fault(head + name + "=1;", 5, head.length());
                fault(head + "1=" + name + ";", 5, head.length() + 2);
            }
            fault("cost " + name + ";", 5, 5);
            fault("ice " + name + ";", 5, 4);
            good("go 1 when " + name + "=1;");
        }
        good("go 1 when thick+north+east+south+west+x+y+wind+watch+coal+banked=1;");
        ThroughPack x = new ThroughPack(3, 3);
        Check.read(x, "go 5 when coal=3 and banked=0;go 6 when banked=0 and coal=1;go 7 when coal=1 and banked=1;");
        x.ship(0, 4, 3);
        x.costs(1, 2, 1);
        Check.due("hold by 3", x.run(0, 0, 1, 3), 1);
        Check.due("bank by 1", x.run(0, 0, 2, 3), 1);
        Check.due("raise by 1", x.run(0, 0, 3, 3), 0);
        x.ship(1, 4, 9);
        Check.due("of SHIP 0", x.run(0, 0, 1, 3), 1);
    }

    private static void values() {
        Doc.says(Doc.TERMS, "From the left;");
        cost("99-50-9", 40);
        cost("64/4/2", 8);
        cost("7*3/2", 10);
        cost("7/2*3", 9);
        Doc.says(Doc.TERMS, "/ cuts towards 0, by 0 it is 0;");
        asks("7/2=3 and -7/2=-3 and 7/-2=-3 and -7/-2=3 and 1/2=0 and -1/2=0", true);
        asks("5/0=0 and -5/0=0 and 0/0=0 and 5/(3-3)=0 and 5/0+1=1 and 0/5=0", true);
        Doc.says(Doc.TERMS, "what is above 1000000 (below the same less) is that, at each step.");
        String million = "(999*999+999+999+1)";
        asks(million + "-1=999*999+999+999", true);
        asks(million + "+1=" + million, true);
        asks(million + "+1-1=999*999+999+999", true);
        asks("999*999*999=" + million, true);
        asks("999*999*999*999*999*999=" + million, true);
        asks(million + "*" + million + "=" + million, true);
        asks("-" + million + "*" + million + "=-" + million, true);
        asks("-" + million + "-1=-" + million, true);
        asks("-" + million + "-1+1=1-" + million, true);
        asks("-" + million + "*-" + million + "=" + million, true);
        asks(million + "*" + million + "/999=999+2", true);
        asks("0-" + million + "=-" + million, true);
        Doc.says(Doc.TERMS, "or and and look at both sides always.");
        asks("1=1 or 1/0=1", true);
        asks("1=2 and 1/0=0", false);
        fault("may 1=1 or coal=1;", 5, 11);
        fault("may 1=2 and 1000=1;", 2, 12);
    }

    private static void firstFault() {
        Doc.says(Doc.TERMS, "FAULTS, the first as TOKENS are come to, at the TOKEN's first byte (of the end at the length), "
                + "of one the least:");
        fault("may coal=1000;", 5, 4);
        fault("may 1000=coal;", 2, 4);
        fault("may thicket=1;", 1, 4);
        fault("may \n coal=1;", 5, 6);
        fault("may", 1, 3);
        fault("may 1=1", 1, 7);
        fault("may 1=1 \n ", 1, 10);
        fault(" ".repeat(293) + "may 1=1", 1, 300);
        String twelve = "may 1=1;".repeat(12);
        fault(twelve + "x", 1, 96);
        fault(twelve + "1000", 1, 96);
        fault("may 1=1;".repeat(11) + "ice 1;ice 1;", 4, 94);
        fault("cost 1 1000;", 1, 7);
        fault("may 1=1 coal;", 1, 8);
        fault("go coal when 1=1;", 1, 3);
        fault("cost 1 cost 1;", 1, 7);
    }

    private static void faultOne() {
        Doc.says(Doc.TERMS, "1 it can't stand there, or is none.");
        fault("?", 1, 0);
        fault("may !", 1, 4);
        fault("may thick=1&;", 1, 11);
        fault("1", 1, 0);
        fault("thick", 1, 0);
        fault("when 1=1;", 1, 0);
        fault("may go=1;", 1, 4);
        fault("may 1 when 1;", 1, 6);
        fault("may 1=1;;", 1, 8);
        fault("may 1=1 nips 1=1;", 1, 8);
        fault("may 1=1 and or 1=1;", 1, 12);
        fault("may 1=1 not 1=1;", 1, 8);
        fault("may 1=not 1;", 1, 6);
        fault("cost not 1;", 1, 5);
        fault("cost 1 or 1;", 1, 7);
        fault("go -1 when 1=1;", 1, 3);
        fault("go (1) when 1=1;", 1, 3);
        fault("go x when 1=1;", 1, 3);
        fault("cost 1 (2);", 1, 7);
        fault("cost (1=1);", 1, 7);
        fault("cost (1,2);", 1, 7);
    }

    private static void faultTwo() {
        Doc.says(Doc.TERMS, "2 a NUMBER that isn't one of those told.");
        good("cost 999;");
        fault("cost 1000;", 2, 5);
        fault("cost 9999999999;", 2, 5);
        fault("cost 4294967296;", 2, 5);
        fault("cost 4294967297;", 2, 5);
        fault("cost 18446744073709551616;", 2, 5);
        fault("cost " + "9".repeat(294) + ";", 2, 5);
        good("cost " + "0".repeat(294) + ";");
        good("go 7 when 8=8;");
        fault("go 8 when 1=1;", 2, 3);
        fault("go 999 when 1=1;", 2, 3);
        fault("go 1000 when 1=1;", 2, 3);
        fault("go 4294967296 when 1=1;", 2, 3);
        fault("go 8", 2, 3);
        ThroughPack x = new ThroughPack(3, 3);
        Check.due("a NUMBER that is too great", Check.read(x, "may 1000=1;"), -1);
        Check.due("leaves no trace for a NAME in its place", Check.read(x, "may x=1;"), 0);
        Check.due("nor for a NUMBER", Check.read(x, "may 1=1;"), 1);
    }

    private static void faultThree() {
        Doc.says(Doc.TERMS, "3 the 9th of ( not and - (of one ONE) that are open around one another (at it).");
        good("cost ((((((((1))))))));");
        fault("cost (((((((((1)))))))));", 3, 13);
        good("cost --------1;");
        fault("cost ---------1;", 3, 13);
        good("cost 1---------1;");
        fault("cost 1----------1;", 3, 15);
        good("may " + "not ".repeat(8) + "1=1;");
        fault("may " + "not ".repeat(9) + "1=1;", 3, 36);
        fault("may " + "not ".repeat(8) + "-1=1;", 3, 36);
        fault("may " + "not ".repeat(8) + "1=-1;", 3, 38);
        fault("may " + "not ".repeat(8) + "(1)=1;", 3, 36);
        good("may " + "not ".repeat(8) + "1-1=1;");
        fault("may not (-(-(-(1;", 1, 16);
        fault("may not (-(-(-(-1;", 3, 15);
        // What is closed is open no more.
        good("cost " + "(1)+".repeat(20) + "1;");
        good("cost " + "-1*".repeat(20) + "1;");
        good("may " + "not 1=1 and ".repeat(12) + "1=1;");
        good("may not not not not ((((1))))=((((1)))) and not not not not ----1=----1;");
        good("cost (((((((-1)-1)-1)-1)-1)-1)-1);");
        fault("cost ((((((((1-(1))))))))", 3, 15);
        good("cost (((((((1-(1))))))));");
        good("go 1 when ((((((((1))))))))=1;");
    }

    private static void faultFourToSix() {
        Doc.says(Doc.TERMS, "4 cost, ice for the second time (at it).");
        fault("cost 1;may 1=1; cost 1;", 4, 16);
        fault("ice 1;cost 1;ice 1;", 4, 13);
        fault("cost 1;cost", 4, 7);
        good("may 1=1;may 1=1;nips 1=1;nips 1=1;walk 1=1;walk 1=1;go 1 when 1=1;go 1 when 1=1;");
        Doc.says(Doc.TERMS, "5 a NAME that isn't of that CLAUSE (at it).");
        fault("ice thick+coal;", 5, 10);
        fault("go 1 when coal=1;may banked=1;", 5, 21);
        fault("may -(banked)=1;", 5, 6);
        Doc.says(Doc.TERMS, "6 the 13th CLAUSE (at its first TOKEN).");
        String eleven = "may 1=1;".repeat(11);
        good(eleven + "ice 1; ");
        fault(eleven + "ice 1; cost 1;", 6, 95);
        fault(eleven + "ice 1;\n\nwalk", 6, 96);
        fault(eleven + "may 1=1;go 9", 6, 96);
        fault(eleven + "ice 1; ice 1;", 4, 95);
    }
}
