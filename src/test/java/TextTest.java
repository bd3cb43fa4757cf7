/** Promises 11 to 15: the tape, texts and their faults, and what texts mean. */
public final class TextTest {
    public static void main(String[] args) {
        tape();
        cuts();
        four();
        faults();
        faultsOfOneToken();
        values();
        precedence();
        names();
        by();
        Check.end();
    }

    private static void tape() {
        ThroughPack x = new ThroughPack(3, 3);
        Check.due("fault ahead of any", x.fault(0), -1);
        Check.due("place ahead of any", x.fault(1), -1);
        Check.due("end(1) of an empty tape", x.end(1), -1);
        Check.due("end(0)", x.end(0), 0);
        Check.due("end(-1)", x.end(-1), -1);
        for (int i = 1; i <= 15; i++) {
            Check.due("feed", x.feed(0x20202020, 0x20202020, 0x20202020, 0x20202020, 0x20202020), 20 * i);
        }
        Check.due("feed beyond 300", x.feed(0, 0, 0, 0, 0), -1);
        Check.due("none came", x.about(10), 300);
        Check.due("end(301)", x.end(301), -1);
        Check.due("end(281)", x.end(281), 281);
        Check.due("feed beyond 300", x.feed(0, 0, 0, 0, 0), -1);
        Check.due("end(280)", x.end(280), 280);
        Check.due("feed up to 300", x.feed(0x20202020, 0x20202020, 0x20202020, 0x20202020, 0x20202020), 300);
        Check.due("blanks alone are a text", x.text(), 0);
        Check.due("the tape is empty then", x.about(10), 0);
        Check.due("its fault", x.fault(0), 0);
        Check.due("its place", x.fault(1), -1);
        Check.due("fault of others", x.fault(2), -1);
        Check.due("fault of others", x.fault(-1), -1);
        // The highest byte comes first: 'm' 'a' 'y' ' ' and so on; bytes above 127 are none.
        x.feed(0x6d617920, 0x313d313b, 0xff202020, 0x20202020, 0x20202020);
        Check.due("end(9)", x.end(9), 9);
        Check.due("byte 255", x.text(), -1);
        Check.due("its fault", x.fault(0), 1);
        Check.due("its place", x.fault(1), 8);
        Check.due("a tape with a fault is read, and empty then", x.about(10), 0);
        Check.due("no text more", x.about(4), 1);
    }

    /** What was cut off the tape must not be read, whatever it was. */
    private static void cut(String text, int length) {
        ThroughPack x = new ThroughPack(3, 3);
        Check.feed(x, text);
        x.end(length);
        Check.due("text cut: " + text, x.text(), -1);
        Check.due("its place is the length", x.fault(1), length);
    }

    private static void cuts() {
        cut("may x=12;", 7);
        cut("may x<=2;", 6);
        cut("may x=yx;", 7);
        cut("may x=1;", 7);
        cut("may 1=1;may 1=1;", 14);
    }

    private static void four() {
        ThroughPack x = new ThroughPack(3, 3);
        for (int i = 0; i < 4; i++) {
            Check.due("text", Check.read(x, "may x=" + i + ";"), i);
        }
        Check.feed(x, "may ?");
        Check.due("a fifth", x.text(), -1);
        Check.due("the tape stays", x.about(10), 5);
        Check.due("it was not read", x.fault(0), 0);
        Check.due("about(4)", x.about(4), 4);
    }

    private static void fault(String text, int what, int place) {
        ThroughPack x = new ThroughPack(3, 3);
        Check.due("text " + text, Check.read(x, text), what == 0 ? 0 : -1);
        Check.due("fault of " + text, x.fault(0), what);
        Check.due("place in " + text, x.fault(1), place);
    }

    private static void good(String text) {
        fault(text, 0, -1);
    }

    private static void faults() {
        good("may 1=1;");
        good("\n may\n1\n=\n1\n;\n");
        good("go7when1=1;cost-x;ice(thick);");
        good("go 007 when coal<banked;");
        good("may 0999>0000000001;");
        fault("may\t1=1;", 1, 3);
        fault("may 1=1;\r", 1, 8);
        fault("May 1=1;", 1, 0);
        fault("mayx=1;", 1, 0);
        fault("may thicker=1;", 1, 4);
        fault("may X=1;", 1, 4);
        fault("may xz=1;", 1, 4);
        fault("may xa=1;", 1, 4);
        fault("may xA=1;", 1, 4);
        fault("may xZ=1;", 1, 4);
        fault("may x[=1;", 1, 5);
        fault("may x`=1;", 1, 5);
        fault("may x@=1;", 1, 5);
        fault("may x{=1;", 1, 5);
        fault("may 0:=1;", 1, 5);
        fault(";".repeat(300), 1, 0);
        good("cost " + "-1".repeat(147) + ";");
        fault("cost " + "1-".repeat(147) + ";", 1, 299);
        fault("may may=1;", 1, 4);
        fault("may 1==1;", 1, 6);
        fault("may 1=<1;", 1, 6);
        fault("may 1<>1;", 1, 6);
        fault("may 1;", 1, 5);
        fault("may 1=1=1;", 1, 7);
        fault("may (1=1);", 1, 6);
        fault("may not (1)=1 and;", 1, 17);
        fault("may 1=1", 1, 7);
        fault("may 1=1  ", 1, 9);
        fault("may", 1, 3);
        fault("may 1=1 may 1=1;", 1, 8);
        fault(";", 1, 0);
        fault("cost 1=1;", 1, 6);
        fault("cost not 1;", 1, 5);
        fault("ice 1 1;", 1, 6);
        fault("cost (1;", 1, 7);
        fault("cost 1);", 1, 6);
        fault("cost +1;", 1, 5);
        fault("cost 1*/2;", 1, 7);
        good("cost 1--2*-3;");
        fault("go when 1=1;", 1, 3);
        fault("go -1 when 1=1;", 1, 3);
        fault("go 8 when 1=1;", 2, 3);
        fault("go 1000 when 1=1;", 2, 3);
        fault("go 1 1=1;", 1, 5);
        fault("may 1000=1;", 2, 4);
        good("may 999=1;");
        fault("may 1=99999999999999999999;", 2, 6);
        fault("cost 4294967297;", 2, 5);
        fault("cost ((((((((1))))))));cost 1;", 4, 23);
        fault("cost (((((((((1;", 3, 13);
        fault("cost --------1;ice ---------1;", 3, 27);
        fault("may not not not not (-(-(-1)))=1;", 3, 24);
        good("may not not not not (-(-1))=1 and not not not not (-(-1))=-(-(1));");
        fault("may not not not not not not not not not 1=1;", 3, 36);
        good("may not not not not not not not not 1=1;");
        fault("may not not not not not not not not 1=(1);", 3, 38);
        good("may --------1=(((((((-1)))))));");
        good("may ((1)+(1)+(1)+(1)+(1)+(1)+(1)+(1)+(1)+(1))=-1-1-1-1-1-1-1-1-1-1;");
        fault("cost 1;ice 1;cost 1;", 4, 13);
        fault("ice 1;cost 1;ice 1;", 4, 13);
        fault("may coal=1;", 5, 4);
        fault("nips banked=1;", 5, 5);
        fault("walk coal=1;", 5, 5);
        fault("cost banked;", 5, 5);
        fault("ice 1+coal;", 5, 6);
        good("go 0 when coal+banked+thick+north+east+south+west+x+y+wind+watch>0;");
        good("ice thick+north+east+south+west+x+y+wind+watch;");
    }

    private static void faultsOfOneToken() {
        String twelve = "may 1=1;".repeat(12);
        good(twelve);
        good(twelve + " ");
        fault(twelve + "may 1=1;", 6, 96);
        fault(twelve + " go", 6, 97);
        fault(twelve + "x", 1, 96);
        fault(twelve + ";", 1, 96);
        String eleven = "may 1=1;".repeat(11);
        fault(eleven + "cost 1;cost 1;", 4, 95);
        fault(eleven + "cost 1;ice 1;", 6, 95);
        fault("may 1=1 coal;", 1, 8);
        fault("may 1=1 1000;", 1, 8);
        fault("may cost=1;", 1, 4);
        fault("cost 1 cost 1;", 1, 7);
        fault("go 1 when 1=1 (((((((((", 1, 14);
        fault("may coal 1000;", 5, 4);
    }

    /** What a sum is, found by the coal that a push takes; 0 to 99. */
    private static void cost(String sum, int due) {
        ThroughPack x = new ThroughPack(3, 3);
        x.ship(0, 0, 99);
        Check.rule(x, "cost " + sum + ";");
        x.watch(0, 1, -1);
        Check.due("cost " + sum, 99 - x.of(0, 1), due);
    }

    private static void values() {
        cost("7", 7);
        cost("1+2*3", 7);
        cost("(1+2)*3", 9);
        cost("20-5-5", 10);
        cost("100/10/5", 2);
        cost("100/(10/5)", 50);
        cost("7/2*2", 6);
        cost("10-7/2", 7);
        cost("10+-7/2", 7);
        cost("10-(0-7)/2", 13);
        cost("5/0", 0);
        cost("5/0+3", 3);
        cost("5-9", 0);
        cost("-9", 0);
        cost("999", 99);
        cost("--8", 8);
        cost("-3*-3", 9);
        cost("2--3", 5);
        cost("999*999*999/999", 99);
        // Held at a million at each step: 1000000 - 998001 - 999 - 999 + 7.
        cost("999*999*2-999*999-999-999+7", 8);
        cost("-(999*999*2)+999*999+999+999+7", 6);
    }

    private static void precedence() {
        asks("1=1 or 1=2 and 1=2", true);
        asks("1=2 and 1=2 or 1=1", true);
        asks("1=1 and 1=2 or 1=2", false);
        asks("not 1=2 and 1=2", false);
        asks("not 1=1 or 1=1", true);
        asks("not 1=2", true);
        asks("not 1=1", false);
        asks("not not 1=1", true);
        asks("not not not 1=1", false);
        asks("1=2 or 1=2 or 1=1", true);
        asks("1=1 and 1=1 and 1=2", false);
        asks("1=1 or 1=1 and 1=2 or 1=2", true);
        asks("1<2", true);
        asks("2<2", false);
        asks("2<=2", true);
        asks("3<=2", false);
        asks("3>2", true);
        asks("2>2", false);
        asks("2>=2", true);
        asks("1>=2", false);
        asks("2#2", false);
        asks("1#2", true);
        asks("999*999*999=999*999*998", true);
        asks("0-999*999*999=-999*999*998", true);
        asks("-999*999*999+1=2-999*999*999", false);
        asks("-999*999*999-1=-999*999*999", true);
        asks("999*999*999+1=999*999*999", true);
        asks("999*999*999-1<999*999*999", true);
        asks("7/2=3 and -7/2=-3 and 7/-2=-3 and -7/-2=3", true);
    }

    private static void asks(String ask, boolean due) {
        ThroughPack x = new ThroughPack(3, 3);
        String text = "may " + ask + ";";
        Check.rule(x, text);
        Check.due(text, x.can(0, 1), due);
    }

    private static void names() {
        ThroughPack x = new ThroughPack(4, 3);
        for (int c = 0; c < 12; c++) {
            x.ice(c, 10 + c);
        }
        x.edge(70);
        x.wind(3);
        x.watch(2, -1, -1);
        x.watch(3, -1, -1);
        x.ship(0, 5, 99);
        String[] sums = {"thick", "north", "east", "south", "west", "x", "y", "wind", "watch"};
        int[] onCell6 = {16, 12, 17, 20, 15, 2, 1, 3, 2};
        x.image();
        for (int i = 0; i < sums.length; i++) {
            x.back();
            Check.rule(x, "cost " + sums[i] + ";");
            x.watch(0, 1, -1);
            Check.due(sums[i] + " of cell 6", 99 - x.of(0, 1), onCell6[i]);
        }
        String[] beside = {"north", "east", "south", "west"};
        int[] onEdge = {0, 3, 8, 4};
        int[] inside = {6, 4, 4, 11};
        int[] dueInside = {12, 15, 18, 20};
        for (int i = 0; i < 4; i++) {
            x.back();
            Check.rule(x, "ice " + beside[i] + ";");
            x.watch(0, 5, -1);
            Check.due(beside[i] + " beyond", x.iceAt(onEdge[i]), 70);
            Check.due(beside[i] + " inside", x.iceAt(inside[i]), dueInside[i]);
        }
    }

    private static void by() {
        ThroughPack x = new ThroughPack(3, 3);
        Check.due("by a text that isn't", x.by(0), false);
        Check.due("by none", x.by(-1), true);
        Check.due("text", Check.read(x, "may 1=2;"), 0);
        Check.due("a text doesn't rule untold", x.can(0, 1), true);
        Check.due("by(0)", x.by(0), true);
        Check.due("about(5)", x.about(5), 0);
        Check.due("it rules", x.can(0, 1), false);
        for (int text : new int[] {1, 4, -2, Integer.MAX_VALUE, Integer.MIN_VALUE}) {
            Check.due("by others", x.by(text), false);
        }
        Check.due("still 0", x.about(5), 0);
        Check.due("by none", x.by(-1), true);
        Check.due("about(5)", x.about(5), -1);
        Check.due("none rules", x.can(0, 1), true);
    }
}
