import java.util.ArrayList;
import java.util.HashMap;
import java.util.List;
import java.util.Map;
import java.util.TreeMap;

/**
 * The document written down a second time, as slowly and plainly as can be: every plan is tried by real watches on
 * copies of the whole state. RandomTest holds the class against it.
 */
final class PlainPack {
    static final int NONE = -1;

    interface Expr {
        int of(Spot spot);
    }

    /** A cell to ask a clause of. */
    record Spot(State s, int cell, int wind, int coal, int banked) {
        int iceOff(int right, int down) {
            int x = cell % s.w + right;
            int y = cell / s.w + down;
            return x < 0 || x >= s.w || y < 0 || y >= s.h ? s.edge : s.ice[x + s.w * y];
        }
    }

    record Clause(String kind, int number, Expr expr) { }

    static final class Fault extends Exception {
        private static final long serialVersionUID = 1L;
        final int what;
        final int place;

        Fault(int what, int place) {
            this.what = what;
            this.place = place;
        }
    }

    static final class Boat {
        int cell;
        int coal = 20;
        int fate;
        boolean banked;
        boolean there;

        Boat copy() {
            Boat b = new Boat();
            b.cell = cell;
            b.coal = coal;
            b.fate = fate;
            b.banked = banked;
            b.there = there;
            return b;
        }
    }

    static final class State {
        int w;
        int h;
        int[] ice;
        boolean[] exit;
        boolean[] shore;
        int edge;
        int wind;
        int watch;
        int[][] drift = new int[4][2];
        int[][] chances = new int[4][4];
        Boat[] boats = {new Boat(), new Boat()};
        int[] costs = {1, 2, 3};
        List<List<Clause>> texts = new ArrayList<>();
        int law = NONE;
        int[] winds = new int[12];
        int[] orders = {4, 4, 4, 4, 4, 4, 4, 4, 4, 4, 4, 4};
        int n;
        int m;
        int home;
        int[] prior = {1, 1, 1, 1, 1, 1};
        List<int[]> looks = new ArrayList<>();

        State copy() {
            State c = new State();
            c.w = w;
            c.h = h;
            c.ice = ice.clone();
            c.exit = exit.clone();
            c.shore = shore.clone();
            c.edge = edge;
            c.wind = wind;
            c.watch = watch;
            for (int v = 0; v < 4; v++) {
                c.drift[v] = drift[v].clone();
                c.chances[v] = chances[v].clone();
            }
            c.boats = new Boat[] {boats[0].copy(), boats[1].copy()};
            c.costs = costs.clone();
            c.texts = new ArrayList<>(texts);
            c.law = law;
            c.winds = winds.clone();
            c.orders = orders.clone();
            c.n = n;
            c.m = m;
            c.home = home;
            c.prior = prior.clone();
            for (int[] look : looks) {
                c.looks.add(look.clone());
            }
            return c;
        }

        int cells() {
            return w * h;
        }

        int off(int cell, int right, int down) {
            int x = cell % w + right;
            int y = cell / w + down;
            return x < 0 || x >= w || y < 0 || y >= h ? NONE : x + w * y;
        }

        int beside(int cell, int order) {
            return off(cell, order == 1 ? 1 : order == 3 ? -1 : 0, order == 2 ? 1 : order == 0 ? -1 : 0);
        }

        List<Clause> clauses(String kind) {
            List<Clause> found = new ArrayList<>();
            if (law != NONE) {
                for (Clause c : texts.get(law)) {
                    if (c.kind().equals(kind)) {
                        found.add(c);
                    }
                }
            }
            return found;
        }

        boolean so(String kind, int cell, int v, boolean without) {
            List<Clause> all = clauses(kind);
            boolean any = false;
            for (Clause c : all) {
                any |= c.expr().of(new Spot(this, cell, v, 0, 0)) != 0;
            }
            return all.isEmpty() ? without : any;
        }

        boolean may(int cell) {
            return so("may", cell, wind, ice[cell] <= 30);
        }

        int pushCost(int cell) {
            List<Clause> all = clauses("cost");
            if (all.isEmpty()) {
                return 1 + ice[cell] / 10;
            }
            return Math.max(0, Math.min(99, all.get(0).expr().of(new Spot(this, cell, wind, 0, 0))));
        }

        /** The coal that it takes, or NONE. */
        int price(int boat, int order) {
            Boat b = boats[boat];
            if (!b.there || b.fate != 0) {
                return NONE;
            }
            int cost;
            if (order < 4) {
                int to = beside(b.cell, order);
                if (b.banked || to == NONE || !may(to)) {
                    return NONE;
                }
                cost = pushCost(to);
            } else if (order == 4 || order == 5) {
                if (b.banked) {
                    return NONE;
                }
                cost = costs[order - 4];
            } else if (order == 6) {
                cost = 0;
            } else {
                if (!b.banked) {
                    return NONE;
                }
                cost = costs[2];
            }
            return cost <= b.coal ? cost : NONE;
        }

        boolean does(int boat, int order) {
            int price = order == NONE ? NONE : price(boat, order);
            if (price == NONE) {
                return false;
            }
            Boat b = boats[boat];
            b.coal -= price;
            if (order < 4) {
                b.cell = beside(b.cell, order);
                if (exit[b.cell]) {
                    b.fate = 1;
                }
            }
            if (order == 6) {
                b.banked = true;
            }
            if (order == 7) {
                b.banked = false;
            }
            return true;
        }

        int step(int v, int one, int other) {
            int lay = boats[0].cell;
            boolean first = does(0, one);
            int kept = ice[lay];
            if (first && one < 4) {
                ice[lay] = 0;
            }
            boolean second = does(1, other);
            ice[lay] = kept;
            goIce(v);
            int[] done = {first ? one : NONE, second ? other : NONE};
            for (int i = 0; i < 2; i++) {
                Boat b = boats[i];
                boolean stays = done[i] == 5 || done[i] >= 0 && done[i] < 4;
                if (b.there && b.fate == 0 && !stays) {
                    int to = off(b.cell, drift[v][0], drift[v][1]);
                    b.cell = to == NONE ? b.cell : to;
                }
            }
            for (Boat b : boats) {
                if (b.there && b.fate != 1 && so("nips", b.cell, v, false)) {
                    b.fate = 2;
                }
            }
            for (int[] look : looks) {
                if (look[0] != NONE) {
                    look[0] = off(look[0], drift[v][0], drift[v][1]);
                }
            }
            wind = v;
            watch++;
            return (first ? 1 : 0) | (second ? 2 : 0);
        }

        private void goIce(int v) {
            int[] next = new int[cells()];
            for (int c = 0; c < cells(); c++) {
                int from = off(c, -drift[v][0], -drift[v][1]);
                next[c] = from == NONE ? edge : ice[from];
            }
            ice = next;
            List<Clause> laws = clauses("ice");
            if (!laws.isEmpty()) {
                int[] after = new int[cells()];
                for (int c = 0; c < cells(); c++) {
                    after[c] = Math.max(0, Math.min(99, laws.get(0).expr().of(new Spot(this, c, v, 0, 0))));
                }
                ice = after;
            }
        }

        /** A copy behind a watch in which ship 0, alone, did this; null if she can't. */
        State after(int v, int order) {
            if (price(0, order) == NONE) {
                return null;
            }
            State c = copy();
            c.boats[1].there = false;
            c.step(v, order, NONE);
            return c;
        }

        String key() {
            return boats[0].cell + " " + boats[0].coal + " " + boats[0].banked;
        }
    }

    /** Cuts off a token and understands it as it is come to. */
    static final class Parser {
        private static final String NAMES = " thick north east south west x y wind watch coal banked ";
        private final String tape;
        private int at;
        private int start;
        private String token;
        private String kind;

        Parser(String tape) {
            this.tape = tape;
        }

        private void scan() {
            while (at < tape.length() && (tape.charAt(at) == ' ' || tape.charAt(at) == 10)) {
                at++;
            }
            start = at;
            if (at == tape.length()) {
                token = "";
                return;
            }
            String rest = tape.substring(at);
            java.util.regex.Matcher found =
                    java.util.regex.Pattern.compile("^([A-Za-z]+|[0-9]+|<=|>=|[-<>=#+*/();])").matcher(rest);
            token = found.find() ? found.group(1) : "?";
            at += token.length();
        }

        private boolean is(String what) {
            return token.equals(what);
        }

        private boolean isNumber() {
            return !token.isEmpty() && Character.isDigit(token.charAt(0));
        }

        private void expect(String what) throws Fault {
            if (!is(what)) {
                throw new Fault(1, start);
            }
            scan();
        }

        private int number(int most) throws Fault {
            if (!isNumber()) {
                throw new Fault(1, start);
            }
            if (new java.math.BigInteger(token).compareTo(java.math.BigInteger.valueOf(most)) > 0) {
                throw new Fault(2, start);
            }
            int value = Integer.parseInt(token);
            scan();
            return value;
        }

        List<Clause> clauses() throws Fault {
            List<Clause> all = new ArrayList<>();
            scan();
            while (!token.isEmpty()) {
                kind = token;
                if (!List.of("may", "nips", "walk", "go", "cost", "ice").contains(kind)) {
                    throw new Fault(1, start);
                }
                boolean once = kind.equals("cost") || kind.equals("ice");
                for (Clause c : all) {
                    if (once && c.kind().equals(kind)) {
                        throw new Fault(4, start);
                    }
                }
                if (all.size() == 12) {
                    throw new Fault(6, start);
                }
                scan();
                int number = 0;
                if (kind.equals("go")) {
                    number = number(7);
                    expect("when");
                }
                Expr body = once ? sum(0) : either();
                expect(";");
                all.add(new Clause(kind, number, body));
            }
            return all;
        }

        private Expr either() throws Fault {
            Expr left = both();
            while (is("or")) {
                scan();
                Expr a = left;
                Expr b = both();
                left = s -> a.of(s) != 0 || b.of(s) != 0 ? 1 : 0;
            }
            return left;
        }

        private Expr both() throws Fault {
            Expr left = ask(0);
            while (is("and")) {
                scan();
                Expr a = left;
                Expr b = ask(0);
                left = s -> a.of(s) != 0 && b.of(s) != 0 ? 1 : 0;
            }
            return left;
        }

        private void opens(int depth) throws Fault {
            if (depth == 8) {
                throw new Fault(3, start);
            }
            scan();
        }

        private Expr ask(int depth) throws Fault {
            if (is("not")) {
                opens(depth);
                Expr a = ask(depth + 1);
                return s -> a.of(s) == 0 ? 1 : 0;
            }
            Expr a = sum(depth);
            String how = token;
            if (!List.of("<", "<=", ">", ">=", "=", "#").contains(how)) {
                throw new Fault(1, start);
            }
            scan();
            Expr b = sum(depth);
            return s -> {
                int x = a.of(s);
                int y = b.of(s);
                boolean so = switch (how) {
                    case "<" -> x < y;
                    case "<=" -> x <= y;
                    case ">" -> x > y;
                    case ">=" -> x >= y;
                    case "=" -> x == y;
                    default -> x != y;
                };
                return so ? 1 : 0;
            };
        }

        private static int held(long v) {
            return (int) Math.max(-1000000, Math.min(1000000, v));
        }

        private Expr sum(int depth) throws Fault {
            Expr left = product(depth);
            while (is("+") || is("-")) {
                boolean plus = is("+");
                scan();
                Expr a = left;
                Expr b = product(depth);
                left = s -> held(plus ? a.of(s) + b.of(s) : a.of(s) - b.of(s));
            }
            return left;
        }

        private Expr product(int depth) throws Fault {
            Expr left = one(depth);
            while (is("*") || is("/")) {
                boolean times = is("*");
                scan();
                Expr a = left;
                Expr b = one(depth);
                left = s -> held(times ? (long) a.of(s) * b.of(s) : b.of(s) == 0 ? 0 : a.of(s) / b.of(s));
            }
            return left;
        }

        private Expr one(int depth) throws Fault {
            if (isNumber()) {
                int value = number(999);
                return s -> value;
            }
            if (is("(")) {
                opens(depth);
                Expr inner = sum(depth + 1);
                expect(")");
                return inner;
            }
            if (is("-")) {
                opens(depth);
                Expr inner = one(depth + 1);
                return s -> -inner.of(s);
            }
            if (token.isEmpty() || !NAMES.contains(" " + token + " ")) {
                throw new Fault(1, start);
            }
            if ((is("coal") || is("banked")) && !kind.equals("go")) {
                throw new Fault(5, start);
            }
            String name = token;
            scan();
            return s -> switch (name) {
                case "thick" -> s.s().ice[s.cell()];
                case "north" -> s.iceOff(0, -1);
                case "east" -> s.iceOff(1, 0);
                case "south" -> s.iceOff(0, 1);
                case "west" -> s.iceOff(-1, 0);
                case "x" -> s.cell() % s.s().w;
                case "y" -> s.cell() / s.s().w;
                case "wind" -> s.wind();
                case "watch" -> s.s().watch;
                case "coal" -> s.coal();
                default -> s.banked();
            };
        }
    }

    private State now = new State();
    private State image;
    private String tape = "";
    private int fault = NONE;
    private int place = NONE;

    PlainPack(int w, int h) {
        now.w = Math.max(3, Math.min(6, w));
        now.h = Math.max(3, Math.min(6, h));
        now.ice = new int[now.cells()];
        now.exit = new boolean[now.cells()];
        now.shore = new boolean[now.cells()];
        now.boats[0].there = true;
        for (int v = 0; v < 4; v++) {
            now.chances[v][v] = 10;
        }
        image = now.copy();
    }

    private boolean cell(int c) {
        return c >= 0 && c < now.cells();
    }

    private static boolean in(int v, int low, int high) {
        return low <= v && v <= high;
    }

    boolean ice(int cell, int v) {
        if (!cell(cell) || !in(v, 0, 99)) {
            return false;
        }
        now.ice[cell] = v;
        return true;
    }

    int iceAt(int cell) {
        return cell(cell) ? now.ice[cell] : NONE;
    }

    boolean mark(int cell, boolean shore, boolean is) {
        if (!cell(cell)) {
            return false;
        }
        (shore ? now.shore : now.exit)[cell] = is;
        return true;
    }

    boolean edge(int v) {
        if (!in(v, 0, 99)) {
            return false;
        }
        now.edge = v;
        return true;
    }

    boolean drift(int wind, int dx, int dy) {
        if (!in(wind, 0, 3) || !in(dx, -1, 1) || !in(dy, -1, 1)) {
            return false;
        }
        now.drift[wind] = new int[] {dx, dy};
        return true;
    }

    boolean chances(int wind, int a, int b, int c, int d) {
        int[] all = {a, b, c, d};
        int sum = 0;
        for (int each : all) {
            if (!in(each, 0, 10)) {
                return false;
            }
            sum += each;
        }
        if (!in(wind, 0, 3) || sum != 10) {
            return false;
        }
        now.chances[wind] = all;
        return true;
    }

    boolean ship(int ship, int cell, int coal) {
        if (!in(ship, 0, 1) || !in(coal, 0, 99) || !in(cell, ship == 1 ? NONE : 0, now.cells() - 1)) {
            return false;
        }
        now.boats[ship] = new Boat();
        now.boats[ship].there = cell != NONE;
        now.boats[ship].cell = Math.max(0, cell);
        now.boats[ship].coal = coal;
        return true;
    }

    boolean costs(int moor, int hold, int raise) {
        if (!in(moor, 0, 99) || !in(hold, 0, 99) || !in(raise, 0, 99)) {
            return false;
        }
        now.costs = new int[] {moor, hold, raise};
        return true;
    }

    boolean wind(int v) {
        if (!in(v, 0, 3)) {
            return false;
        }
        now.wind = v;
        return true;
    }

    int feed(int a, int b, int c, int d, int e) {
        if (tape.length() > 280) {
            return NONE;
        }
        StringBuilder more = new StringBuilder(tape);
        for (int four : new int[] {a, b, c, d, e}) {
            byte[] bytes = java.nio.ByteBuffer.allocate(4).putInt(four).array();
            for (byte each : bytes) {
                more.append((char) (each & 255));
            }
        }
        tape = more.toString();
        return tape.length();
    }

    int end(int n) {
        if (n < 0 || n > tape.length()) {
            return NONE;
        }
        tape = tape.substring(0, n);
        return n;
    }

    int text() {
        if (now.texts.size() == 4) {
            return NONE;
        }
        String read = tape;
        tape = "";
        try {
            now.texts.add(new Parser(read).clauses());
            fault = 0;
            place = NONE;
            return now.texts.size() - 1;
        } catch (Fault f) {
            fault = f.what;
            place = f.place;
            return NONE;
        }
    }

    int fault(int what) {
        return what == 0 ? fault : what == 1 ? place : NONE;
    }

    boolean by(int text) {
        if (!in(text, NONE, now.texts.size() - 1)) {
            return false;
        }
        now.law = text;
        return true;
    }

    boolean can(int ship, int order) {
        return in(ship, 0, 1) && in(order, 0, 7) && now.price(ship, order) != NONE;
    }

    int watch(int wind, int one, int other) {
        if (!in(wind, 0, 3) || !in(one, NONE, 7) || !in(other, NONE, 7) || now.watch == 99) {
            return NONE;
        }
        return now.step(wind, one, other);
    }

    int of(int ship, int what) {
        if (!in(ship, 0, 1) || !now.boats[ship].there) {
            return NONE;
        }
        Boat b = now.boats[ship];
        return what == 0 ? b.cell : what == 1 ? b.coal : what == 2 ? (b.banked ? 1 : 0) : what == 3 ? b.fate : NONE;
    }

    int ahead(int k, int wind) {
        if (!in(k, 0, 11) || !in(wind, 0, 3)) {
            return NONE;
        }
        now.winds[k] = wind;
        now.n = Math.max(now.n, k + 1);
        return now.n;
    }

    boolean many(int n, int m) {
        if (!in(n, 0, 12) || !in(m, 0, n)) {
            return false;
        }
        now.n = n;
        now.m = m;
        return true;
    }

    /** Watches, coal and orders of the best way out, or null: all states of each watch, with the lowest way to them. */
    private static Object[] wayOut(State from) {
        Map<String, Object[]> layer = new HashMap<>();
        if (from.boats[0].fate == 0) {
            layer.put(from.key(), new Object[] {from, ""});
        }
        for (int t = 0; t < from.n; t++) {
            Map<String, Object[]> next = new HashMap<>();
            TreeMap<Integer, String> out = new TreeMap<>();
            for (Object[] each : layer.values()) {
                for (int order = 0; order < 8; order++) {
                    State s = ((State) each[0]).after(from.winds[t], order);
                    if (s == null || s.boats[0].fate == 2) {
                        continue;
                    }
                    String way = (String) each[1] + order;
                    if (s.boats[0].fate == 1) {
                        out.merge(s.boats[0].coal, way, (a, b) -> a.compareTo(b) <= 0 ? a : b);
                    } else {
                        next.merge(s.key(), new Object[] {s, way},
                                (a, b) -> ((String) a[1]).compareTo((String) b[1]) <= 0 ? a : b);
                    }
                }
            }
            if (!out.isEmpty()) {
                return new Object[] {t + 1, out.lastKey(), out.lastEntry().getValue()};
            }
            layer = next;
        }
        return null;
    }

    int soonest(int what) {
        if (!(what == 0 || what == 1 || in(what, 10, 21))) {
            return NONE;
        }
        Object[] way = wayOut(now);
        if (way == null) {
            return NONE;
        }
        if (what < 2) {
            return (Integer) way[what];
        }
        String orders = (String) way[2];
        return what - 10 < orders.length() ? orders.charAt(what - 10) - '0' : NONE;
    }

    int least() {
        for (int coal = 0; coal <= 99; coal++) {
            State s = now.copy();
            s.boats[0].coal = coal;
            if (wayOut(s) != null) {
                return coal;
            }
        }
        return NONE;
    }

    int order(int k, int v) {
        if (!in(k, 0, now.n - 1) || !in(v, 0, 7)) {
            return NONE;
        }
        now.orders[k] = v;
        now.m = Math.max(now.m, k + 1);
        return now.m;
    }

    /** The states behind 0, 1, .. told orders, as long as she goes on; none if she doesn't now. */
    private List<State> path() {
        List<State> path = new ArrayList<>();
        if (now.boats[0].fate == 0) {
            path.add(now);
        }
        for (int k = 0; k < now.m && path.size() == k + 1; k++) {
            State s = path.get(k).after(now.winds[k], now.orders[k]);
            if (s != null && s.boats[0].fate == 0) {
                path.add(s);
            }
        }
        return path;
    }

    int told(int k) {
        if (!in(k, NONE, now.m - 1)) {
            return NONE;
        }
        List<State> path = path();
        if (k == NONE) {
            return Math.max(0, path.size() - 1);
        }
        return k + 1 < path.size() ? path.get(k + 1).boats[0].cell : NONE;
    }

    boolean home(int cell) {
        if (!cell(cell)) {
            return false;
        }
        now.home = cell;
        return true;
    }

    int last() {
        List<State> path = path();
        for (int k = path.size() - 1; k >= 0; k--) {
            Map<String, State> layer = new HashMap<>();
            layer.put(path.get(k).key(), path.get(k));
            for (int t = k; t <= now.n; t++) {
                Map<String, State> next = new HashMap<>();
                for (State s : layer.values()) {
                    if (s.boats[0].cell == now.home) {
                        return k;
                    }
                    for (int order = 0; order < 8 && t < now.n; order++) {
                        State to = s.after(now.winds[t], order);
                        if (to != null && to.boats[0].fate == 0) {
                            next.put(to.key(), to);
                        }
                    }
                }
                layer = next;
            }
        }
        return NONE;
    }

    int walk(int k) {
        List<State> path = path();
        if (!in(k, 0, now.m) || k >= path.size()) {
            return NONE;
        }
        State s = path.get(k).copy();
        boolean[] there = new boolean[s.cells()];
        there[s.boats[0].cell] = true;
        for (int t = k; ; t++) {
            for (int c = 0; c < s.cells(); c++) {
                if (there[c] && s.shore[c]) {
                    return t - k;
                }
            }
            if (t == now.n) {
                return NONE;
            }
            boolean[] next = new boolean[s.cells()];
            for (int c = 0; c < s.cells(); c++) {
                for (int way = -1; way < 4 && there[c]; way++) {
                    int to = way < 0 ? c : s.beside(c, way);
                    if (to == NONE || way >= 0 && !s.so("walk", to, s.wind, s.ice[to] >= 10)) {
                        continue;
                    }
                    int[] d = s.drift[now.winds[t]];
                    int carried = s.shore[to] ? NONE : s.off(to, d[0], d[1]);
                    next[carried == NONE ? to : carried] = true;
                }
            }
            there = next;
            s.step(now.winds[t], NONE, NONE);
        }
    }

    int leave() {
        for (int k = now.m; k >= 0; k--) {
            if (walk(k) != NONE) {
                return k;
            }
        }
        return NONE;
    }

    int winter(int what) {
        int best = 0;
        int[] often = new int[now.cells()];
        for (int c = 0; c < now.cells(); c++) {
            State s = now.copy();
            int lies = c;
            for (int t = 0; t < now.n; t++) {
                int v = now.winds[t];
                s.goIce(v);
                int to = s.off(lies, s.drift[v][0], s.drift[v][1]);
                lies = to == NONE ? lies : to;
                often[c] += s.so("nips", lies, v, false) ? 1 : 0;
                s.wind = v;
                s.watch++;
            }
            best = often[c] < often[best] ? c : best;
        }
        if (what == 0) {
            return best;
        }
        return what == 1 ? often[best] : in(what, 10, 9 + now.cells()) ? often[what - 10] : NONE;
    }

    private static int tens(int n) {
        return n == 0 ? 1 : 10 * tens(n - 1);
    }

    /** Of 10 to the n, if she begins with this order; NONE if she can't. */
    private static int chance(State s, int order, int n) {
        if (s.price(0, order) == NONE) {
            return NONE;
        }
        int sum = 0;
        for (int v = 0; v < 4; v++) {
            State to = s.after(v, order);
            if (s.chances[s.wind][v] > 0 && to.boats[0].fate != 2) {
                sum += s.chances[s.wind][v] * best(to, n - 1);
            }
        }
        return sum;
    }

    private static int best(State s, int n) {
        if (s.boats[0].fate != 0 || n == 0) {
            return s.boats[0].fate == 1 ? tens(n) : 0;
        }
        int most = 0;
        for (int order = 0; order < 8; order++) {
            most = Math.max(most, chance(s, order, n));
        }
        return most;
    }

    private static boolean outBy(State s, int[] winds, int t) {
        if (s.boats[0].fate != 0 || t == winds.length) {
            return s.boats[0].fate == 1;
        }
        for (int order = 0; order < 8; order++) {
            State to = s.after(winds[t], order);
            if (to != null && outBy(to, winds, t + 1)) {
                return true;
            }
        }
        return false;
    }

    private static int known(State s, int[] winds, int t, int from) {
        if (t == winds.length) {
            return outBy(s, winds, 0) ? 1 : 0;
        }
        int sum = 0;
        for (int v = 0; v < 4; v++) {
            winds[t] = v;
            if (s.chances[from][v] > 0) {
                sum += s.chances[from][v] * known(s, winds, t + 1, v);
            }
        }
        return sum;
    }

    int surest(int n, int what) {
        if (!in(n, 1, 3) || !in(what, 0, 2)) {
            return NONE;
        }
        int best = best(now, n);
        if (what == 0) {
            return best;
        }
        if (what == 2) {
            return known(now, new int[n], 0, now.wind) - best;
        }
        for (int order = 0; order < 8; order++) {
            if (chance(now, order, n) == best) {
                return order;
            }
        }
        return NONE;
    }

    int leads(int cell) {
        if (!in(cell, NONE, now.cells() - 1)) {
            return NONE;
        }
        int[] far = new int[now.cells()];
        java.util.Arrays.fill(far, 99);
        far[now.boats[0].cell] = 0;
        for (int round = 0; round < 36 && now.boats[0].fate == 0; round++) {
            for (int c = 0; c < now.cells(); c++) {
                for (int way = 0; way < 4; way++) {
                    int to = now.beside(c, way);
                    boolean stuck = far[c] > 0 && now.exit[c];
                    if (to != NONE && !stuck && far[c] + 1 < far[to] && now.may(to)) {
                        far[to] = far[c] + 1;
                    }
                }
            }
        }
        int many = 0;
        for (int each : far) {
            many += each < 99 ? 1 : 0;
        }
        return cell == NONE ? many : far[cell] < 99 ? far[cell] : NONE;
    }

    boolean prior(int kind, int weight) {
        if (!in(kind, 0, 5) || !in(weight, 0, 9)) {
            return false;
        }
        now.prior[kind] = weight;
        return true;
    }

    int look(int cell, int kind) {
        if (!cell(cell) || !in(kind, 0, 5) || now.looks.size() == 30) {
            return NONE;
        }
        now.looks.add(new int[] {cell, kind});
        return now.looks.size();
    }

    int think(int cell, int kind) {
        if (!cell(cell) || !in(kind, NONE, 5)) {
            return NONE;
        }
        List<Integer> there = new ArrayList<>();
        for (int[] look : now.looks) {
            if (look[0] == cell) {
                there.add(0, look[1]);
            }
        }
        if (kind == NONE) {
            return there.size();
        }
        long[] weights = new long[6];
        long all = 0;
        for (int k = 0; k < 6; k++) {
            weights[k] = now.prior[k];
            for (int seen : there.subList(0, Math.min(12, there.size()))) {
                weights[k] *= seen == k ? 8 : seen == k + 1 || seen == k - 1 ? 1 : 0;
            }
            all += weights[k];
        }
        return all == 0 ? NONE : (int) (weights[kind] * 1000 / all);
    }

    private State sail(int text, int seed, int n) {
        State s = now.copy();
        s.boats[1].there = false;
        long x = seed * 7L + 3;
        for (int t = 0; t < n && s.boats[0].fate == 0; t++) {
            Boat b = s.boats[0];
            int order = s.price(0, 4) != NONE ? 4 : 6;
            for (Clause c : s.texts.get(text)) {
                if (c.kind().equals("go") && s.price(0, c.number()) != NONE
                        && c.expr().of(new Spot(s, b.cell, s.wind, b.coal, b.banked ? 1 : 0)) != 0) {
                    order = c.number();
                    break;
                }
            }
            int v = 0;
            int below = s.chances[s.wind][0];
            while (x % 10 >= below) {
                v++;
                below += s.chances[s.wind][v];
            }
            x = (x * 173 + 11) % 30103;
            s.step(v, order, NONE);
        }
        return s;
    }

    int run(int text, int seed, int n, int what) {
        if (!in(text, 0, now.texts.size() - 1) || !in(seed, 0, 9999) || !in(n, 1, 40) || !in(what, 0, 3)
                || now.boats[0].fate != 0) {
            return NONE;
        }
        State s = sail(text, seed, n);
        Boat b = s.boats[0];
        return what == 0 ? b.fate : what == 1 ? s.watch - now.watch : what == 2 ? b.cell : b.coal;
    }

    int runs(int text, int seed, int count, int n, int how) {
        if (!in(count, 1, 40) || !in(how, 0, 2) || seed > 9999 - count + 1) {
            return NONE;
        }
        int many = 0;
        for (int i = 0; i < count; i++) {
            int end = run(text, seed + i, n, 0);
            if (end == NONE) {
                return NONE;
            }
            many += end == how ? 1 : 0;
        }
        return many;
    }

    int image() {
        image = now.copy();
        return now.watch;
    }

    int back() {
        now = image.copy();
        return now.watch;
    }

    int about(int what) {
        int[] all = {now.w, now.h, now.watch, now.wind, now.texts.size(), now.law, now.n, now.m, now.home,
            now.looks.size(), tape.length(), now.edge};
        return in(what, 0, 11) ? all[what] : -2;
    }
}
