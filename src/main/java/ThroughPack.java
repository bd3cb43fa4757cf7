/** A ship in drifting ice: its laws, its winds, the ways out of it and what is thought of it. */
public final class ThroughPack {
    public static final int NONE = -1;

    private static final int FREE = 0;
    private static final int OUT = 1;
    private static final int NIPPED = 2;

    /** Orders below this one push. */
    private static final int PUSHES = 4;
    private static final int MOOR = 4;
    private static final int HOLD = 5;
    private static final int BANK = 6;
    private static final int RAISE = 7;
    private static final int ORDERS = 8;

    private static final int WINDS = 4;
    private static final int CLASSES = 6;
    private static final int MOST_CELLS = 36;
    private static final int MOST_ICE = 99;
    private static final int MOST_COAL = 99;
    private static final int MOST_WATCH = 99;
    private static final int MOST_AHEAD = 12;
    private static final int MOST_LOOKS = 30;
    private static final int MOST_TEXTS = 4;
    private static final int MOST_BYTES = 300;
    private static final int MOST_SEED = 9999;
    private static final int MOST_RUN = 40;
    private static final int MOST_SURE = 3;

    private static final int MAY = 0;
    private static final int NIPS = 1;
    private static final int WALK = 2;
    private static final int GO = 3;
    private static final int COST = 4;
    private static final int ICE = 5;

    private final World now;
    private final World kept;
    private final Text[] texts;
    private final Reader reader;
    private final Judge judge;
    private final Helm helm;
    private final Outlook outlook;
    private final Ways ways;
    private final Odds odds;

    public ThroughPack(int w, int h) {
        int wide = held(w, 3, 6);
        int high = held(h, 3, 6);
        now = new World(wide, high);
        kept = new World(wide, high);
        texts = new Text[MOST_TEXTS];
        for (int i = 0; i < MOST_TEXTS; i++) {
            texts[i] = new Text();
        }
        reader = new Reader();
        judge = new Judge(now.sea);
        helm = new Helm(now, judge);
        outlook = new Outlook(now, judge);
        ways = new Ways(now, helm, judge, outlook);
        odds = new Odds(now, helm, outlook);
    }

    public boolean ice(int cell, int v) {
        if (!now.sea.has(cell) || !within(v, 0, MOST_ICE)) {
            return false;
        }
        now.sea.ice[cell] = v;
        return true;
    }

    public int iceAt(int cell) {
        return now.sea.has(cell) ? now.sea.ice[cell] : NONE;
    }

    public boolean mark(int cell, boolean shore, boolean is) {
        if (!now.sea.has(cell)) {
            return false;
        }
        if (shore) {
            now.sea.shore[cell] = is;
        } else {
            now.sea.exit[cell] = is;
        }
        return true;
    }

    public boolean edge(int v) {
        if (!within(v, 0, MOST_ICE)) {
            return false;
        }
        now.sea.edge = v;
        return true;
    }

    public boolean drift(int wind, int dx, int dy) {
        if (!isWind(wind) || !within(dx, -1, 1) || !within(dy, -1, 1)) {
            return false;
        }
        now.sea.dx[wind] = dx;
        now.sea.dy[wind] = dy;
        return true;
    }

    public boolean chances(int wind, int a, int b, int c, int d) {
        // Each is looked at by itself, so that their sum can't wrap around to 10.
        boolean tenths = within(a, 0, 10) && within(b, 0, 10) && within(c, 0, 10) && within(d, 0, 10);
        if (!isWind(wind) || !tenths || a + b + c + d != 10) {
            return false;
        }
        int at = WINDS * wind;
        now.sea.chance[at] = a;
        now.sea.chance[at + 1] = b;
        now.sea.chance[at + 2] = c;
        now.sea.chance[at + 3] = d;
        return true;
    }

    public boolean ship(int ship, int cell, int coal) {
        if (!within(ship, 0, 1) || !within(coal, 0, MOST_COAL)) {
            return false;
        }
        if (ship == 1 && cell == NONE) {
            now.second.there = false;
            return true;
        }
        if (!now.sea.has(cell)) {
            return false;
        }
        shipOf(ship).put(cell, coal);
        return true;
    }

    public boolean costs(int moor, int hold, int raise) {
        if (!within(moor, 0, MOST_COAL) || !within(hold, 0, MOST_COAL) || !within(raise, 0, MOST_COAL)) {
            return false;
        }
        now.costs[0] = moor;
        now.costs[1] = hold;
        now.costs[2] = raise;
        return true;
    }

    public boolean wind(int v) {
        if (!isWind(v)) {
            return false;
        }
        now.sea.wind = v;
        return true;
    }

    public int feed(int a, int b, int c, int d, int e) {
        if (reader.bytes + 20 > MOST_BYTES) {
            return NONE;
        }
        reader.take(a);
        reader.take(b);
        reader.take(c);
        reader.take(d);
        reader.take(e);
        return reader.bytes;
    }

    public int end(int n) {
        if (!within(n, 0, reader.bytes)) {
            return NONE;
        }
        reader.bytes = n;
        return n;
    }

    public int text() {
        int number = now.texts;
        if (!within(number, 0, MOST_TEXTS - 1)) {
            return NONE;
        }
        // A slot at or behind the count belongs to no text, of now or of the image: it may be spoilt.
        boolean good = reader.reads(texts[number]);
        reader.bytes = 0;
        if (!good) {
            return NONE;
        }
        now.texts = number + 1;
        return number;
    }

    public int fault(int what) {
        if (what == 0) {
            return reader.fault;
        }
        return what == 1 ? reader.place : NONE;
    }

    public boolean by(int text) {
        if (text != NONE && !isText(text)) {
            return false;
        }
        now.law = text;
        heedLaw();
        return true;
    }

    public boolean can(int ship, int order) {
        if (!within(ship, 0, 1) || !isOrder(order)) {
            return false;
        }
        judge.face(now.sea.ice, now.sea.wind, now.sea.watch);
        return helm.priceFor(shipOf(ship), order) != NONE;
    }

    public int watch(int wind, int one, int other) {
        boolean told = (one == NONE || isOrder(one)) && (other == NONE || isOrder(other));
        Sea sea = now.sea;
        if (!isWind(wind) || !told || sea.watch >= MOST_WATCH) {
            return NONE;
        }
        int lay = now.first.cell;
        judge.face(sea.ice, sea.wind, sea.watch);
        boolean did = helm.obey(now.first, one);
        int before = sea.ice[lay];
        if (did && one < PUSHES) {
            sea.ice[lay] = 0;
        }
        boolean also = helm.obey(now.second, other);
        sea.ice[lay] = before;
        judge.drive(sea.ice, sea.ice, wind, sea.watch);
        helm.settle(now.first, did ? one : NONE, wind);
        helm.settle(now.second, also ? other : NONE, wind);
        now.looks.go(sea, wind);
        sea.wind = wind;
        sea.watch++;
        return (did ? 1 : 0) + (also ? 2 : 0);
    }

    public int of(int ship, int what) {
        if (!within(ship, 0, 1) || !shipOf(ship).there) {
            return NONE;
        }
        Ship it = shipOf(ship);
        switch (what) {
            case 0:
                return it.cell;
            case 1:
                return it.coal;
            case 2:
                return it.banked ? 1 : 0;
            case 3:
                return it.fate;
            default:
                return NONE;
        }
    }

    public int ahead(int k, int wind) {
        if (!within(k, 0, MOST_AHEAD - 1) || !isWind(wind)) {
            return NONE;
        }
        now.winds[k] = wind;
        now.n = Math.max(now.n, k + 1);
        return now.n;
    }

    public boolean many(int n, int m) {
        if (!within(n, 0, MOST_AHEAD) || !within(m, 0, n)) {
            return false;
        }
        now.n = n;
        now.m = m;
        return true;
    }

    public int soonest(int what) {
        boolean asked = what == 0 || what == 1 || within(what, 10, 9 + MOST_AHEAD);
        if (!asked || now.first.fate != FREE) {
            return NONE;
        }
        outlook.foresee();
        int watches = ways.fewestWatches();
        if (watches == NONE || what == 0) {
            return watches;
        }
        return what == 1 ? ways.coalLeft() : ways.orderOfBest(what - 10, watches);
    }

    public int least() {
        if (now.first.fate != FREE) {
            return NONE;
        }
        outlook.foresee();
        return ways.leastCoal();
    }

    public int order(int k, int v) {
        if (!within(k, 0, now.n - 1) || !isOrder(v)) {
            return NONE;
        }
        now.orders[k] = v;
        now.m = Math.max(now.m, k + 1);
        return now.m;
    }

    public int told(int k) {
        if (k != NONE && !within(k, 0, now.m - 1)) {
            return NONE;
        }
        outlook.foresee();
        int done = ways.followTold();
        if (k == NONE) {
            return Math.max(done, 0);
        }
        return k < done ? ways.toldCell(k + 1) : NONE;
    }

    public boolean home(int cell) {
        if (!now.sea.has(cell)) {
            return false;
        }
        now.home = cell;
        return true;
    }

    public int last() {
        outlook.foresee();
        return ways.lastTurn();
    }

    public int walk(int k) {
        if (!within(k, 0, now.m)) {
            return NONE;
        }
        outlook.foresee();
        return ways.watchesAfoot(k);
    }

    public int leave() {
        outlook.foresee();
        return ways.lastLeave();
    }

    public int winter(int what) {
        boolean best = what == 0 || what == 1;
        if (!best && !within(what, 10, 9 + now.sea.size)) {
            return NONE;
        }
        outlook.foresee();
        int cell = best ? ways.calmest() : what - 10;
        return what == 0 ? cell : ways.nipsIn(cell);
    }

    public int surest(int n, int what) {
        if (!within(n, 1, MOST_SURE) || !within(what, 0, 2)) {
            return NONE;
        }
        if (now.first.fate != FREE) {
            int sure = now.first.fate == OUT ? Odds.tens(n) : 0;
            return what == 0 ? sure : what == 1 ? NONE : 0;
        }
        // The last wind blows behind the last push, so that it changes nothing.
        outlook.foreseeAll(n - 1);
        odds.weigh(n);
        if (what == 0) {
            return odds.best;
        }
        return what == 1 ? odds.first : odds.knownAhead(n) - odds.best;
    }

    public int leads(int cell) {
        if (cell != NONE && !now.sea.has(cell)) {
            return NONE;
        }
        int many = ways.openLeads();
        return cell == NONE ? many : ways.pushesTo(cell);
    }

    public boolean prior(int kind, int weight) {
        if (!within(kind, 0, CLASSES - 1) || !within(weight, 0, 9)) {
            return false;
        }
        now.looks.prior[kind] = weight;
        return true;
    }

    public int look(int cell, int kind) {
        if (!now.sea.has(cell) || !within(kind, 0, CLASSES - 1) || now.looks.count >= MOST_LOOKS) {
            return NONE;
        }
        now.looks.add(cell, kind);
        return now.looks.count;
    }

    public int think(int cell, int kind) {
        if (!now.sea.has(cell) || !within(kind, NONE, CLASSES - 1)) {
            return NONE;
        }
        return kind == NONE ? now.looks.seenIn(cell) : now.looks.thousandths(cell, kind);
    }

    public int run(int text, int seed, int n, int what) {
        boolean asked = within(seed, 0, MOST_SEED) && within(n, 1, MOST_RUN) && within(what, 0, 3);
        if (!isText(text) || !asked || now.first.fate != FREE) {
            return NONE;
        }
        helm.sail(texts[text], seed, n);
        switch (what) {
            case 0:
                return helm.runner.fate;
            case 1:
                return helm.watches;
            case 2:
                return helm.runner.cell;
            default:
                return helm.runner.coal;
        }
    }

    public int runs(int text, int seed, int count, int n, int how) {
        boolean asked = within(seed, 0, MOST_SEED) && within(count, 1, MOST_RUN) && within(n, 1, MOST_RUN)
                && within(how, 0, 2);
        if (!isText(text) || !asked || seed + count - 1 > MOST_SEED || now.first.fate != FREE) {
            return NONE;
        }
        int many = 0;
        for (int i = 0; i < count; i++) {
            helm.sail(texts[text], seed + i, n);
            if (helm.runner.fate == how) {
                many++;
            }
        }
        return many;
    }

    public int image() {
        kept.take(now);
        return now.sea.watch;
    }

    public int back() {
        now.take(kept);
        heedLaw();
        return now.sea.watch;
    }

    public int about(int what) {
        switch (what) {
            case 0:
                return now.sea.w;
            case 1:
                return now.sea.h;
            case 2:
                return now.sea.watch;
            case 3:
                return now.sea.wind;
            case 4:
                return now.texts;
            case 5:
                return now.law;
            case 6:
                return now.n;
            case 7:
                return now.m;
            case 8:
                return now.home;
            case 9:
                return now.looks.count;
            case 10:
                return reader.bytes;
            case 11:
                return now.sea.edge;
            default:
                return -2;
        }
    }

    private Ship shipOf(int ship) {
        return ship == 1 ? now.second : now.first;
    }

    private boolean isText(int text) {
        return within(text, 0, now.texts - 1) && text < MOST_TEXTS;
    }

    private void heedLaw() {
        judge.law = isText(now.law) ? texts[now.law] : null;
    }

    private static boolean isWind(int v) {
        return within(v, 0, WINDS - 1);
    }

    private static boolean isOrder(int v) {
        return within(v, 0, ORDERS - 1);
    }

    private static boolean within(int v, int low, int high) {
        return v >= low && v <= high;
    }

    private static int held(int v, int low, int high) {
        return v < low ? low : v > high ? high : v;
    }

    /** All that an image keeps. */
    private static final class World {
        final Sea sea;
        final Ship first;
        final Ship second;
        final int[] costs;
        final Looks looks;
        final int[] winds;
        final int[] orders;
        int n;
        int m;
        int home;
        int texts;
        int law;

        World(int w, int h) {
            sea = new Sea(w, h);
            first = new Ship(true);
            second = new Ship(false);
            costs = new int[] {1, 2, 3};
            looks = new Looks();
            winds = new int[MOST_AHEAD];
            orders = new int[MOST_AHEAD];
            for (int k = 0; k < MOST_AHEAD; k++) {
                orders[k] = MOOR;
            }
            law = NONE;
        }

        void take(World other) {
            sea.take(other.sea);
            first.take(other.first);
            second.take(other.second);
            System.arraycopy(other.costs, 0, costs, 0, costs.length);
            looks.take(other.looks);
            System.arraycopy(other.winds, 0, winds, 0, MOST_AHEAD);
            System.arraycopy(other.orders, 0, orders, 0, MOST_AHEAD);
            n = other.n;
            m = other.m;
            home = other.home;
            // Texts are only ever added behind those that an image has, so their count is enough.
            texts = other.texts;
            law = other.law;
        }
    }

    /** Cells, what lies and drifts in them, and the winds. */
    private static final class Sea {
        final int w;
        final int h;
        final int size;
        final int[] ice;
        final boolean[] exit;
        final boolean[] shore;
        final int[] dx;
        final int[] dy;
        /** Tenths of the wind behind a wind: at 4 times the one, plus the other. */
        final int[] chance;
        int edge;
        int wind;
        int watch;

        /** The sides are 3 to 6 each, so that w may divide. */
        Sea(int w, int h) {
            this.w = w;
            this.h = h;
            size = w * h;
            ice = new int[MOST_CELLS];
            exit = new boolean[MOST_CELLS];
            shore = new boolean[MOST_CELLS];
            dx = new int[WINDS];
            dy = new int[WINDS];
            chance = new int[WINDS * WINDS];
            for (int v = 0; v < WINDS; v++) {
                chance[WINDS * v + v] = 10;
            }
        }

        boolean has(int cell) {
            return cell >= 0 && cell < size;
        }

        /** The cell so many steps off, or NONE beyond the edge. */
        int off(int cell, int right, int down) {
            int x = cell % w + right;
            int y = cell / w + down;
            return x >= 0 && x < w && y >= 0 && y < h ? x + w * y : NONE;
        }

        int beside(int cell, int push) {
            switch (push) {
                case 0:
                    return off(cell, 0, -1);
                case 1:
                    return off(cell, 1, 0);
                case 2:
                    return off(cell, 0, 1);
                case 3:
                    return off(cell, -1, 0);
                default:
                    return NONE;
            }
        }

        /** Where the ice of a cell goes; NONE if it leaves the sea. */
        int carried(int cell, int v) {
            return off(cell, dx[v], dy[v]);
        }

        /** Where a thing that can't leave the sea is behind the drift. */
        int afloat(int cell, int v) {
            int to = off(cell, dx[v], dy[v]);
            return to == NONE ? cell : to;
        }

        /** The wind into whose tenths a draw of 0 to 9 falls. */
        int drawn(int from, int draw) {
            int left = draw;
            for (int v = 0; v < WINDS; v++) {
                left -= chance[WINDS * from + v];
                if (left < 0) {
                    return v;
                }
            }
            return from;
        }

        void take(Sea other) {
            System.arraycopy(other.ice, 0, ice, 0, MOST_CELLS);
            System.arraycopy(other.exit, 0, exit, 0, MOST_CELLS);
            System.arraycopy(other.shore, 0, shore, 0, MOST_CELLS);
            System.arraycopy(other.dx, 0, dx, 0, WINDS);
            System.arraycopy(other.dy, 0, dy, 0, WINDS);
            System.arraycopy(other.chance, 0, chance, 0, WINDS * WINDS);
            edge = other.edge;
            wind = other.wind;
            watch = other.watch;
        }
    }

    private static final class Ship {
        int cell;
        int coal;
        int fate;
        boolean banked;
        boolean there;

        Ship(boolean there) {
            coal = 20;
            this.there = there;
        }

        void put(int where, int load) {
            cell = where;
            coal = load;
            fate = FREE;
            banked = false;
            there = true;
        }

        void take(Ship other) {
            cell = other.cell;
            coal = other.coal;
            fate = other.fate;
            banked = other.banked;
            there = other.there;
        }
    }

    /** What was seen from the barrel; a look whose ice has left the sea still counts, in no cell. */
    private static final class Looks {
        /** So many of the latest looks in a cell weigh; more would leave a long's range. */
        private static final int HEEDED = 12;

        final int[] prior;
        private final int[] cells;
        private final int[] kinds;
        int count;

        Looks() {
            prior = new int[CLASSES];
            for (int kind = 0; kind < CLASSES; kind++) {
                prior[kind] = 1;
            }
            cells = new int[MOST_LOOKS];
            kinds = new int[MOST_LOOKS];
        }

        void add(int cell, int kind) {
            if (count < MOST_LOOKS) {
                cells[count] = cell;
                kinds[count] = kind;
                count++;
            }
        }

        void go(Sea sea, int v) {
            for (int i = 0; i < count; i++) {
                if (cells[i] != NONE) {
                    cells[i] = sea.carried(cells[i], v);
                }
            }
        }

        int seenIn(int cell) {
            int many = 0;
            for (int i = 0; i < count; i++) {
                if (cells[i] == cell) {
                    many++;
                }
            }
            return many;
        }

        int thousandths(int cell, int kind) {
            long all = 0;
            for (int each = 0; each < CLASSES; each++) {
                all += weight(cell, each);
            }
            return all == 0 ? NONE : (int) (1000 * weight(cell, kind) / all);
        }

        private long weight(int cell, int kind) {
            long weight = prior[kind];
            int heeded = 0;
            for (int i = count - 1; i >= 0 && heeded < HEEDED; i--) {
                if (cells[i] == cell) {
                    int apart = Math.abs(kinds[i] - kind);
                    weight *= apart == 0 ? 8 : apart == 1 ? 1 : 0;
                    heeded++;
                }
            }
            return weight;
        }

        void take(Looks other) {
            System.arraycopy(other.prior, 0, prior, 0, CLASSES);
            System.arraycopy(other.cells, 0, cells, 0, MOST_LOOKS);
            System.arraycopy(other.kinds, 0, kinds, 0, MOST_LOOKS);
            count = other.count;
        }
    }

    /** Clauses, each turned into steps for a stack: operands first, then what is done with them. */
    private static final class Text {
        static final int MOST_CLAUSES = 12;
        /** Steps below this one are numbers; from here on names, by their places among the words. */
        static final int NAMES = 1000;
        /** From here on: what is done with operands, by its token. */
        static final int DEEDS = 2000;

        final int[] steps;
        /** Where a clause's steps begin; those of the next begin where they end. */
        final int[] from;
        final int[] kinds;
        final int[] numbers;
        int clauses;
        private int length;

        Text() {
            steps = new int[MOST_BYTES];
            from = new int[MOST_CLAUSES + 1];
            kinds = new int[MOST_CLAUSES];
            numbers = new int[MOST_CLAUSES];
        }

        void clear() {
            clauses = 0;
            length = 0;
        }

        void add(int step) {
            if (length < steps.length) {
                steps[length] = step;
                length++;
            }
        }

        /** The steps that were added since the clause before are this one's. */
        void close(int kind, int number) {
            if (clauses < MOST_CLAUSES) {
                kinds[clauses] = kind;
                numbers[clauses] = number;
                clauses++;
                from[clauses] = length;
            }
        }

        int firstOf(int kind) {
            for (int i = 0; i < clauses; i++) {
                if (kinds[i] == kind) {
                    return i;
                }
            }
            return NONE;
        }
    }

    /** Keeps the tape, and reads it token by token up to the first fault. */
    private static final class Reader {
        /** The first six begin clauses; names stand from THICK on, those of go alone from COAL on. */
        private static final String WORDS =
                "may nips walk go cost ice when or and not thick north east south west x y wind watch coal banked ";
        private static final int WHEN = 6;
        private static final int OR = 7;
        private static final int AND = 8;
        private static final int NOT = 9;
        private static final int THICK = 10;
        private static final int COAL = 19;
        private static final int BANKED = 20;

        private static final int NUMBER = 30;
        private static final int LESS = 31;
        private static final int LESS_OR_LIKE = 32;
        private static final int MORE = 33;
        private static final int MORE_OR_LIKE = 34;
        private static final int LIKE = 35;
        private static final int UNLIKE = 36;
        private static final int PLUS = 37;
        private static final int MINUS = 38;
        private static final int TIMES = 39;
        private static final int OVER = 40;
        private static final int OPEN = 41;
        private static final int CLOSE = 42;
        private static final int SEMICOLON = 43;
        /** A minus of one operand, among a text's deeds only. */
        private static final int TURNED = 44;
        private static final int END = 50;
        private static final int ALIEN = 51;

        private static final int MOST_NUMBER = 999;
        private static final int MOST_OPEN = 8;

        private final int[] tape;
        private final int[] tokens;
        private final int[] starts;
        private final int[] values;
        int bytes;
        int fault;
        int place;
        private Text text;
        /** How many bytes are split into tokens. */
        private int split;
        private int at;
        private int token;
        private int clause;

        Reader() {
            tape = new int[MOST_BYTES];
            tokens = new int[MOST_BYTES + 1];
            starts = new int[MOST_BYTES + 1];
            values = new int[MOST_BYTES + 1];
            fault = NONE;
            place = NONE;
            token = END;
        }

        void take(int four) {
            for (int shift = 24; shift >= 0 && bytes < tape.length; shift -= 8) {
                tape[bytes] = four >>> shift & 255;
                bytes++;
            }
        }

        /** The tape becomes the text's clauses; false with a fault. */
        boolean reads(Text into) {
            text = into;
            text.clear();
            fault = 0;
            place = NONE;
            splitTape();
            at = NONE;
            next();
            for (int i = 0; i <= Text.MOST_CLAUSES && token != END; i++) {
                if (!readsClause()) {
                    return false;
                }
            }
            return true;
        }

        private void next() {
            if (at < MOST_BYTES) {
                at++;
            }
            token = tokens[at];
        }

        private boolean faulty(int what) {
            fault = what;
            place = starts[at];
            return false;
        }

        private boolean readsClause() {
            clause = token;
            if (clause < MAY || clause > ICE) {
                return faulty(1);
            }
            boolean ofSums = clause == COST || clause == ICE;
            if (ofSums && text.firstOf(clause) != NONE) {
                return faulty(4);
            }
            if (text.clauses >= Text.MOST_CLAUSES) {
                return faulty(6);
            }
            next();
            int order = clause == GO ? readsOrder() : 0;
            if (order == NONE) {
                return false;
            }
            boolean good = ofSums ? readsSum(0) : readsEither();
            if (!good) {
                return false;
            }
            if (token != SEMICOLON) {
                return faulty(1);
            }
            text.close(clause, order);
            next();
            return true;
        }

        /** The order between go and when, both of which are passed; NONE with a fault. */
        private int readsOrder() {
            if (token != NUMBER) {
                faulty(1);
                return NONE;
            }
            int order = values[at];
            if (order >= ORDERS) {
                faulty(2);
                return NONE;
            }
            next();
            if (token != WHEN) {
                faulty(1);
                return NONE;
            }
            next();
            return order;
        }

        /** EITHER and BOTH in one: an and is joined as soon as its right side is read, an or behind the ands. */
        private boolean readsEither() {
            boolean andWaits = false;
            boolean orWaits = false;
            for (int i = 0; i < MOST_BYTES; i++) {
                if (!readsAsk(0)) {
                    return false;
                }
                if (andWaits) {
                    text.add(Text.DEEDS + AND);
                }
                andWaits = token == AND;
                if (!andWaits) {
                    if (orWaits) {
                        text.add(Text.DEEDS + OR);
                    }
                    orWaits = token == OR;
                }
                if (!andWaits && !orWaits) {
                    return true;
                }
                next();
            }
            return false;
        }

        private boolean readsAsk(int open) {
            if (token == NOT) {
                if (open >= MOST_OPEN) {
                    return faulty(3);
                }
                next();
                boolean inner = readsAsk(open + 1);
                text.add(Text.DEEDS + NOT);
                return inner;
            }
            if (!readsSum(open)) {
                return false;
            }
            int how = token;
            if (how < LESS || how > UNLIKE) {
                return faulty(1);
            }
            next();
            boolean good = readsSum(open);
            text.add(Text.DEEDS + how);
            return good;
        }

        /** SUM and PRODUCT in one, as EITHER and BOTH are. */
        private boolean readsSum(int open) {
            int product = NONE;
            int sum = NONE;
            for (int i = 0; i < MOST_BYTES; i++) {
                if (!readsOne(open)) {
                    return false;
                }
                if (product != NONE) {
                    text.add(Text.DEEDS + product);
                }
                product = token == TIMES || token == OVER ? token : NONE;
                if (product == NONE) {
                    if (sum != NONE) {
                        text.add(Text.DEEDS + sum);
                    }
                    sum = token == PLUS || token == MINUS ? token : NONE;
                }
                if (product == NONE && sum == NONE) {
                    return true;
                }
                next();
            }
            return false;
        }

        private boolean readsOne(int open) {
            boolean isName = token >= THICK && token <= BANKED;
            if (token == NUMBER || isName) {
                if (token == NUMBER && values[at] > MOST_NUMBER) {
                    return faulty(2);
                }
                if (isName && token >= COAL && clause != GO) {
                    return faulty(5);
                }
                text.add(isName ? Text.NAMES + token : values[at]);
                next();
                return true;
            }
            if (token != OPEN && token != MINUS) {
                return faulty(1);
            }
            if (open >= MOST_OPEN) {
                return faulty(3);
            }
            boolean turned = token == MINUS;
            next();
            if (turned) {
                boolean good = readsOne(open + 1);
                text.add(Text.DEEDS + TURNED);
                return good;
            }
            if (!readsSum(open + 1)) {
                return false;
            }
            if (token != CLOSE) {
                return faulty(1);
            }
            next();
            return true;
        }

        private void splitTape() {
            split = 0;
            for (int count = 0; count <= MOST_BYTES; count++) {
                while (split < bytes && (tape[split] == ' ' || tape[split] == '\n')) {
                    split++;
                }
                starts[count] = split;
                if (split >= bytes) {
                    tokens[count] = END;
                    return;
                }
                if (isLetter(tape[split])) {
                    tokens[count] = splitWord();
                } else if (isDigit(tape[split])) {
                    values[count] = splitNumber();
                    tokens[count] = NUMBER;
                } else {
                    tokens[count] = splitSign();
                }
            }
        }

        private int splitWord() {
            int start = split;
            while (split < bytes && isLetter(tape[split])) {
                split++;
            }
            int word = 0;
            int begin = 0;
            for (int i = 0; i < WORDS.length(); i++) {
                if (WORDS.charAt(i) == ' ') {
                    if (i - begin == split - start && isWord(begin, i, start)) {
                        return word;
                    }
                    word++;
                    begin = i + 1;
                }
            }
            return ALIEN;
        }

        private boolean isWord(int begin, int end, int start) {
            for (int i = begin; i < end; i++) {
                if (WORDS.charAt(i) != tape[start + i - begin]) {
                    return false;
                }
            }
            return true;
        }

        private int splitNumber() {
            int value = 0;
            while (split < bytes && isDigit(tape[split])) {
                // Held one above the greatest, so that a long row of digits can't wrap around.
                value = Math.min(MOST_NUMBER + 1, 10 * value + tape[split] - '0');
                split++;
            }
            return value;
        }

        private int splitSign() {
            int sign = plainSign(tape[split]);
            split++;
            if ((sign == LESS || sign == MORE) && split < bytes && tape[split] == '=') {
                split++;
                return sign == LESS ? LESS_OR_LIKE : MORE_OR_LIKE;
            }
            return sign;
        }

        private static int plainSign(int sign) {
            switch (sign) {
                case '<':
                    return LESS;
                case '>':
                    return MORE;
                case '=':
                    return LIKE;
                case '#':
                    return UNLIKE;
                case '+':
                    return PLUS;
                case '-':
                    return MINUS;
                case '*':
                    return TIMES;
                case '/':
                    return OVER;
                case '(':
                    return OPEN;
                case ')':
                    return CLOSE;
                case ';':
                    return SEMICOLON;
                default:
                    return ALIEN;
            }
        }

        private static boolean isLetter(int sign) {
            return sign >= 'a' && sign <= 'z' || sign >= 'A' && sign <= 'Z';
        }

        private static boolean isDigit(int sign) {
            return sign >= '0' && sign <= '9';
        }
    }

    /** Asks the text that rules, and others, about cells of the ice that it faces. */
    private static final class Judge {
        private static final int MOST_VALUE = 1000000;
        private static final int THIN = 30;
        private static final int FIRM = 10;

        private final Sea sea;
        private final int[] stack;
        private final int[] carried;
        Text law;
        private int[] ice;
        private int wind;
        private int watch;
        private int coal;
        private int banked;

        Judge(Sea sea) {
            this.sea = sea;
            // Eight open brackets, each with a sum and a product begun, and what is open outside them.
            stack = new int[64];
            carried = new int[MOST_CELLS];
            ice = sea.ice;
        }

        /** What is asked from now on is asked of this ice, with this wind and watch. */
        void face(int[] field, int v, int hour) {
            ice = field;
            wind = v;
            watch = hour;
        }

        boolean isOpen(int cell) {
            return anySo(MAY, cell, ice[cell] <= THIN);
        }

        boolean isNipping(int cell) {
            return anySo(NIPS, cell, false);
        }

        boolean isFirm(int cell) {
            return anySo(WALK, cell, ice[cell] >= FIRM);
        }

        /** The coal of a push into a cell; NONE if none may be. */
        int toll(int cell) {
            if (!anySo(MAY, cell, ice[cell] <= THIN)) {
                return NONE;
            }
            int clause = law == null ? NONE : law.firstOf(COST);
            return clause == NONE ? 1 + ice[cell] / 10 : held(value(law, clause, cell), 0, MOST_COAL);
        }

        /** The ice goes by a wind into another field (or the same), which is faced from then on. */
        void drive(int[] before, int[] behind, int v, int hour) {
            for (int cell = 0; cell < sea.size; cell++) {
                int origin = sea.off(cell, -sea.dx[v], -sea.dy[v]);
                carried[cell] = origin == NONE ? sea.edge : before[origin];
            }
            face(carried, v, hour);
            int clause = law == null ? NONE : law.firstOf(ICE);
            for (int cell = 0; cell < sea.size; cell++) {
                behind[cell] = clause == NONE ? carried[cell] : held(value(law, clause, cell), 0, MOST_ICE);
            }
            face(behind, v, hour);
        }

        /** Whether a go clause is so for a ship. */
        boolean wants(Text text, int clause, Ship ship) {
            coal = ship.coal;
            banked = ship.banked ? 1 : 0;
            return value(text, clause, ship.cell) != 0;
        }

        private boolean anySo(int kind, int cell, boolean without) {
            if (law == null || law.firstOf(kind) == NONE) {
                return without;
            }
            for (int i = 0; i < law.clauses; i++) {
                if (law.kinds[i] == kind && value(law, i, cell) != 0) {
                    return true;
                }
            }
            return false;
        }

        private int value(Text text, int clause, int cell) {
            int top = 0;
            for (int i = text.from[clause]; i < text.from[clause + 1]; i++) {
                int step = text.steps[i];
                if (step < Text.DEEDS) {
                    if (top >= stack.length) {
                        return 0;
                    }
                    stack[top] = step < Text.NAMES ? step : named(step - Text.NAMES, cell);
                    top++;
                } else if (step == Text.DEEDS + Reader.TURNED || step == Text.DEEDS + Reader.NOT) {
                    if (top < 1) {
                        return 0;
                    }
                    int it = stack[top - 1];
                    stack[top - 1] = step == Text.DEEDS + Reader.NOT ? 1 - it : -it;
                } else {
                    if (top < 2) {
                        return 0;
                    }
                    top--;
                    long it = joined(step - Text.DEEDS, stack[top - 1], stack[top]);
                    stack[top - 1] = it > MOST_VALUE ? MOST_VALUE : it < -MOST_VALUE ? -MOST_VALUE : (int) it;
                }
            }
            return top < 1 ? 0 : stack[0];
        }

        private int named(int name, int cell) {
            int x = cell % sea.w;
            int y = cell / sea.w;
            switch (name) {
                case Reader.THICK:
                    return ice[cell];
                case Reader.THICK + 1:
                    return y > 0 ? ice[cell - sea.w] : sea.edge;
                case Reader.THICK + 2:
                    return x < sea.w - 1 ? ice[cell + 1] : sea.edge;
                case Reader.THICK + 3:
                    return y < sea.h - 1 ? ice[cell + sea.w] : sea.edge;
                case Reader.THICK + 4:
                    return x > 0 ? ice[cell - 1] : sea.edge;
                case Reader.THICK + 5:
                    return x;
                case Reader.THICK + 6:
                    return y;
                case Reader.THICK + 7:
                    return wind;
                case Reader.THICK + 8:
                    return watch;
                case Reader.COAL:
                    return coal;
                case Reader.BANKED:
                    return banked;
                default:
                    return 0;
            }
        }

        /** A long, since a product of two values may leave an int's range before it is held. */
        private static long joined(int how, int a, int b) {
            switch (how) {
                case Reader.OR:
                    return a | b;
                case Reader.AND:
                    return a & b;
                case Reader.LESS:
                    return a < b ? 1 : 0;
                case Reader.LESS_OR_LIKE:
                    return a <= b ? 1 : 0;
                case Reader.MORE:
                    return a > b ? 1 : 0;
                case Reader.MORE_OR_LIKE:
                    return a >= b ? 1 : 0;
                case Reader.LIKE:
                    return a == b ? 1 : 0;
                case Reader.UNLIKE:
                    return a != b ? 1 : 0;
                case Reader.PLUS:
                    return a + b;
                case Reader.MINUS:
                    return a - b;
                case Reader.TIMES:
                    return (long) a * b;
                case Reader.OVER:
                    return b == 0 ? 0 : a / b;
                default:
                    return 0;
            }
        }
    }

    /** What a ship can do, what it takes and where it brings her; and runs by a text's go clauses. */
    private static final class Helm {
        private final World world;
        private final Sea sea;
        private final Judge judge;
        /** The ice, the ship and the watches of the latest run. */
        private final int[] field;
        final Ship runner;
        int watches;

        Helm(World world, Judge judge) {
            this.world = world;
            this.judge = judge;
            sea = world.sea;
            field = new int[MOST_CELLS];
            runner = new Ship(true);
        }

        /** The coal that an order takes; NONE if fires or ice forbid it. The toll is that of a push, or NONE. */
        int price(int order, boolean banked, int toll) {
            if (order == BANK) {
                return 0;
            }
            if (banked) {
                return order == RAISE ? world.costs[2] : NONE;
            }
            if (order == MOOR) {
                return world.costs[0];
            }
            if (order == HOLD) {
                return world.costs[1];
            }
            return order == RAISE ? NONE : toll;
        }

        /** Where she lies behind a watch in which she did this; a push must have a cell to go to. */
        int landing(int order, int cell, int v) {
            if (order == HOLD) {
                return cell;
            }
            return isPush(order) ? sea.beside(cell, order) : sea.afloat(cell, v);
        }

        static boolean isPush(int order) {
            return order >= 0 && order < PUSHES;
        }

        static boolean banksBehind(int order, boolean banked) {
            return order == BANK || banked && order != RAISE;
        }

        /** The coal that an order takes in the ice that is faced; NONE if she can't do it. */
        int priceFor(Ship ship, int order) {
            if (!ship.there || ship.fate != FREE || !isOrder(order)) {
                return NONE;
            }
            int to = isPush(order) && !ship.banked ? sea.beside(ship.cell, order) : NONE;
            int price = price(order, ship.banked, to == NONE ? NONE : judge.toll(to));
            return price <= ship.coal ? price : NONE;
        }

        /** The first part of a watch; false if she can't, and then nothing is done. */
        boolean obey(Ship ship, int order) {
            int price = priceFor(ship, order);
            if (price == NONE) {
                return false;
            }
            ship.coal -= price;
            ship.banked = banksBehind(order, ship.banked);
            if (isPush(order)) {
                ship.cell = sea.beside(ship.cell, order);
                ship.fate = sea.exit[ship.cell] ? OUT : FREE;
            }
            return true;
        }

        /** Behind the ice's going: she drifts, unless she pushed or held, and may be nipped. */
        void settle(Ship ship, int done, int v) {
            if (!ship.there || ship.fate != FREE) {
                return;
            }
            if (!isPush(done) && done != HOLD) {
                ship.cell = sea.afloat(ship.cell, v);
            }
            if (judge.isNipping(ship.cell)) {
                ship.fate = NIPPED;
            }
        }

        /** A run on a copy of the ice and of the first ship, so that nothing changes. */
        void sail(Text text, int seed, int n) {
            System.arraycopy(sea.ice, 0, field, 0, MOST_CELLS);
            runner.take(world.first);
            int draw = seed * 7 + 3;
            int wind = sea.wind;
            watches = 0;
            for (int t = 0; t < n && runner.fate == FREE; t++) {
                judge.face(field, wind, sea.watch + t);
                int order = chosen(text);
                obey(runner, order);
                wind = sea.drawn(wind, draw % 10);
                draw = (draw * 173 + 11) % 30103;
                judge.drive(field, field, wind, sea.watch + t);
                settle(runner, order, wind);
                watches++;
            }
        }

        /** An order that the runner can do: bank at least, whatever her coal and fires. */
        private int chosen(Text text) {
            for (int i = 0; i < text.clauses; i++) {
                int order = text.numbers[i];
                if (text.kinds[i] == GO && judge.wants(text, i, runner) && priceFor(runner, order) != NONE) {
                    return order;
                }
            }
            return priceFor(runner, MOOR) != NONE ? MOOR : BANK;
        }
    }

    /** Ice that winds will bring, a row for each watch ahead, or for each row of winds that may come. */
    private static final class Outlook {
        /** Now, four winds behind it, and four behind each of these; winds ahead need fewer. */
        static final int ROWS = 21;

        private final World world;
        private final Sea sea;
        private final Judge judge;
        final int[][] ice;
        /** Of a push into a cell as the watch begins; NONE if none may be. */
        final int[][] tolls;
        /** 1 where a nips clause is so as the watch that leads to the row ends. */
        final int[][] nips;
        /** The wind of the watch that leads to the row; NONE for a row that can't come. */
        final int[] winds;
        final int[] hours;

        Outlook(World world, Judge judge) {
            this.world = world;
            this.judge = judge;
            sea = world.sea;
            ice = new int[ROWS][MOST_CELLS];
            tolls = new int[ROWS][MOST_CELLS];
            nips = new int[ROWS][MOST_CELLS];
            winds = new int[ROWS];
            hours = new int[ROWS];
        }

        /** Row t is the sea behind t of the winds told ahead. */
        void foresee() {
            begin();
            for (int t = 0; t < world.n; t++) {
                follow(t, t + 1, world.winds[t]);
            }
        }

        /** All rows of so many winds that may come: behind row r wind v leads to the row that behind tells. */
        void foreseeAll(int many) {
            begin();
            // Rows that have winds behind them: none, now alone, or now and its four.
            int inner = many == 2 ? 1 + WINDS : many;
            for (int row = 0; row < inner; row++) {
                for (int v = 0; v < WINDS; v++) {
                    int next = behind(row, v);
                    winds[next] = NONE;
                    if (winds[row] != NONE && sea.chance[WINDS * winds[row] + v] > 0) {
                        follow(row, next, v);
                    }
                }
            }
        }

        static int behind(int row, int v) {
            return WINDS * row + 1 + v;
        }

        private void begin() {
            System.arraycopy(sea.ice, 0, ice[0], 0, MOST_CELLS);
            winds[0] = sea.wind;
            hours[0] = sea.watch;
            askTolls(0);
        }

        /** Row next becomes what a wind makes of a row. */
        private void follow(int row, int next, int v) {
            judge.drive(ice[row], ice[next], v, hours[row]);
            for (int cell = 0; cell < sea.size; cell++) {
                nips[next][cell] = judge.isNipping(cell) ? 1 : 0;
            }
            winds[next] = v;
            hours[next] = hours[row] + 1;
            askTolls(next);
        }

        private void askTolls(int row) {
            judge.face(ice[row], winds[row], hours[row]);
            for (int cell = 0; cell < sea.size; cell++) {
                tolls[row][cell] = judge.toll(cell);
            }
        }

        /** The toll of the cell into which an order pushes; NONE if it is no push or has none. */
        int tollOf(int row, int cell, int order) {
            int to = sea.beside(cell, order);
            return to == NONE ? NONE : tolls[row][to];
        }
    }

    /** Ways of the first ship, and of those who walk, by the winds told ahead. */
    private static final class Ways {
        private static final int NEVER = 1000000;

        private final World world;
        private final Sea sea;
        private final Helm helm;
        private final Judge judge;
        private final Outlook outlook;
        /** The least coal that a place behind an even or an odd number of watches has taken. */
        private final int[][] spent;
        /** The least coal from a row and a place on. */
        private final int[][] needs;
        /** The fewest watches from a row on to the shore. */
        private final int[][] afoot;
        /** The ship behind so many told orders. */
        private final Ship[] behind;
        private final int[] pushes;
        private final int[] queue;
        private int outFor;

        Ways(World world, Helm helm, Judge judge, Outlook outlook) {
            this.world = world;
            this.helm = helm;
            this.judge = judge;
            this.outlook = outlook;
            sea = world.sea;
            spent = new int[2][2 * MOST_CELLS];
            needs = new int[MOST_AHEAD + 1][2 * MOST_CELLS];
            afoot = new int[MOST_AHEAD + 1][MOST_CELLS];
            behind = new Ship[MOST_AHEAD + 1];
            for (int k = 0; k <= MOST_AHEAD; k++) {
                behind[k] = new Ship(true);
            }
            pushes = new int[MOST_CELLS];
            queue = new int[MOST_CELLS];
        }

        /** The fewest watches to be out by the coal that she has. */
        int fewestWatches() {
            return seekOut(world.first.coal, true);
        }

        /** Of the way out that was sought last. */
        int coalLeft() {
            return world.first.coal - outFor;
        }

        int leastCoal() {
            seekOut(MOST_COAL, false);
            return outFor == NEVER ? NONE : outFor;
        }

        /**
         * Goes on by a watch at a time to all places that she can pay for, and answers how many it took; NONE if no way
         * out was found. Coal only ever grows less and no law but go asks for it: who spent the least can do the most.
         */
        private int seekOut(int coal, boolean soonestAlone) {
            outFor = NEVER;
            clearSpent(0);
            spent[0][place(world.first.cell, world.first.banked)] = 0;
            for (int t = 0; t < world.n; t++) {
                clearSpent(t + 1);
                for (int cell = 0; cell < sea.size; cell++) {
                    seekFrom(t, cell, false, coal);
                    seekFrom(t, cell, true, coal);
                }
                if (soonestAlone && outFor < NEVER) {
                    return t + 1;
                }
            }
            return outFor < NEVER ? world.n : NONE;
        }

        private void clearSpent(int t) {
            for (int i = 0; i < spent[t & 1].length; i++) {
                spent[t & 1][i] = NEVER;
            }
        }

        private void seekFrom(int t, int cell, boolean banked, int coal) {
            int before = spent[t & 1][place(cell, banked)];
            for (int order = 0; order < ORDERS && before <= coal; order++) {
                int price = helm.price(order, banked, outlook.tollOf(t, cell, order));
                if (price == NONE || before + price > coal) {
                    continue;
                }
                int to = helm.landing(order, cell, world.winds[t]);
                if (Helm.isPush(order) && sea.exit[to]) {
                    outFor = Math.min(outFor, before + price);
                } else if (outlook.nips[t + 1][to] == 0) {
                    int[] next = spent[t + 1 & 1];
                    int place = place(to, Helm.banksBehind(order, banked));
                    next[place] = Math.min(next[place], before + price);
                }
            }
        }

        /** The k-th order of the best way out in so many watches, which are the fewest. */
        int orderOfBest(int k, int watches) {
            if (k < 0 || k >= watches) {
                return NONE;
            }
            askNeeds(watches, NONE);
            int cell = world.first.cell;
            boolean banked = world.first.banked;
            for (int t = 0; t < k; t++) {
                int order = lowestBest(t, cell, banked);
                if (order == NONE) {
                    return NONE;
                }
                cell = helm.landing(order, cell, world.winds[t]);
                banked = Helm.banksBehind(order, banked);
            }
            return lowestBest(k, cell, banked);
        }

        private int lowestBest(int t, int cell, boolean banked) {
            int need = needs[t][place(cell, banked)];
            for (int order = 0; order < ORDERS; order++) {
                if (need < NEVER && needBy(order, t, cell, banked, NONE) == need) {
                    return order;
                }
            }
            return NONE;
        }

        private static int place(int cell, boolean banked) {
            return 2 * cell + (banked ? 1 : 0);
        }

        /** What it takes, from each place on, to be out by the last watch, or, if home is a cell, in it. */
        private void askNeeds(int last, int home) {
            for (int t = last; t >= 0; t--) {
                for (int cell = 0; cell < sea.size; cell++) {
                    needs[t][place(cell, false)] = leastNeed(t, cell, false, last, home);
                    needs[t][place(cell, true)] = leastNeed(t, cell, true, last, home);
                }
            }
        }

        private int leastNeed(int t, int cell, boolean banked, int last, int home) {
            if (cell == home) {
                return 0;
            }
            int least = NEVER;
            for (int order = 0; order < ORDERS && t < last; order++) {
                least = Math.min(least, needBy(order, t, cell, banked, home));
            }
            return least;
        }

        private int needBy(int order, int t, int cell, boolean banked, int home) {
            int price = helm.price(order, banked, outlook.tollOf(t, cell, order));
            if (price == NONE) {
                return NEVER;
            }
            int to = helm.landing(order, cell, world.winds[t]);
            if (Helm.isPush(order) && sea.exit[to]) {
                return home == NONE ? price : NEVER;
            }
            if (outlook.nips[t + 1][to] != 0) {
                return NEVER;
            }
            return Math.min(NEVER, price + needs[t + 1][place(to, Helm.banksBehind(order, banked))]);
        }

        /** Behind how many told orders she still goes on; NONE if she is out or nipped as it is. */
        int followTold() {
            behind[0].take(world.first);
            if (world.first.fate != FREE) {
                return NONE;
            }
            int done = 0;
            for (int k = 0; k < world.m && done == k; k++) {
                if (goesOn(k)) {
                    done++;
                }
            }
            return done;
        }

        private boolean goesOn(int k) {
            Ship from = behind[k];
            int order = world.orders[k];
            int price = helm.price(order, from.banked, outlook.tollOf(k, from.cell, order));
            if (price == NONE || price > from.coal) {
                return false;
            }
            int to = helm.landing(order, from.cell, world.winds[k]);
            if (Helm.isPush(order) && sea.exit[to] || outlook.nips[k + 1][to] != 0) {
                return false;
            }
            behind[k + 1].put(to, from.coal - price);
            behind[k + 1].banked = Helm.banksBehind(order, from.banked);
            return true;
        }

        /** Her cell behind so many told orders, as they were followed last. */
        int toldCell(int orders) {
            return behind[orders].cell;
        }

        int lastTurn() {
            int done = followTold();
            askNeeds(world.n, world.home);
            for (int k = done; k >= 0; k--) {
                Ship ship = behind[k];
                if (needs[k][place(ship.cell, ship.banked)] <= ship.coal) {
                    return k;
                }
            }
            return NONE;
        }

        int watchesAfoot(int k) {
            if (k > followTold()) {
                return NONE;
            }
            askAfoot();
            int watches = afoot[k][behind[k].cell];
            return watches < NEVER ? watches : NONE;
        }

        int lastLeave() {
            int done = followTold();
            askAfoot();
            for (int k = done; k >= 0; k--) {
                if (afoot[k][behind[k].cell] < NEVER) {
                    return k;
                }
            }
            return NONE;
        }

        private void askAfoot() {
            for (int t = world.n; t >= 0; t--) {
                judge.face(outlook.ice[t], outlook.winds[t], outlook.hours[t]);
                for (int cell = 0; cell < sea.size; cell++) {
                    afoot[t][cell] = sea.shore[cell] ? 0 : t == world.n ? NEVER : afootBehind(t, cell);
                }
                for (int cell = 0; cell < sea.size && t < world.n; cell++) {
                    reachAfoot(t, cell);
                }
            }
        }

        /** The watches for those who are in a cell as the drift of a watch comes, this watch with them. */
        private int afootBehind(int t, int cell) {
            int rest = sea.shore[cell] ? 0 : afoot[t + 1][sea.afloat(cell, world.winds[t])];
            return Math.min(NEVER, 1 + rest);
        }

        /** Those beside a cell may go to it, if it bears them. */
        private void reachAfoot(int t, int to) {
            if (!judge.isFirm(to)) {
                return;
            }
            int watches = afootBehind(t, to);
            for (int way = 0; way < PUSHES; way++) {
                int from = sea.beside(to, way);
                if (from != NONE) {
                    afoot[t][from] = Math.min(afoot[t][from], watches);
                }
            }
        }

        /** How often she is nipped who lies moored in a cell, as the winds were foreseen last. */
        int nipsIn(int cell) {
            int often = 0;
            int lies = cell;
            for (int t = 0; t < world.n; t++) {
                lies = sea.afloat(lies, world.winds[t]);
                often += outlook.nips[t + 1][lies];
            }
            return often;
        }

        int calmest() {
            int best = 0;
            for (int cell = 1; cell < sea.size; cell++) {
                if (nipsIn(cell) < nipsIn(best)) {
                    best = cell;
                }
            }
            return best;
        }

        /** Finds the fewest pushes to each cell, and answers how many cells have some. */
        int openLeads() {
            for (int cell = 0; cell < MOST_CELLS; cell++) {
                pushes[cell] = NONE;
            }
            Ship ship = world.first;
            judge.face(sea.ice, sea.wind, sea.watch);
            pushes[ship.cell] = 0;
            queue[0] = ship.cell;
            int found = 1;
            for (int i = 0; i < found && ship.fate == FREE; i++) {
                // She may lie in an exit by drift, and not be out.
                if (i == 0 || !sea.exit[queue[i]]) {
                    found = spread(queue[i], found);
                }
            }
            return found;
        }

        private int spread(int from, int found) {
            int many = found;
            for (int way = 0; way < PUSHES; way++) {
                int to = sea.beside(from, way);
                if (to != NONE && pushes[to] == NONE && many < queue.length && judge.isOpen(to)) {
                    pushes[to] = pushes[from] + 1;
                    queue[many] = to;
                    many++;
                }
            }
            return many;
        }

        int pushesTo(int cell) {
            return pushes[cell];
        }
    }

    /** Chances of the first ship when winds come by theirs. */
    private static final class Odds {
        private final World world;
        private final Sea sea;
        private final Helm helm;
        private final Outlook outlook;
        int best;
        int first;

        Odds(World world, Helm helm, Outlook outlook) {
            this.world = world;
            this.helm = helm;
            this.outlook = outlook;
            sea = world.sea;
        }

        static int tens(int n) {
            int all = 1;
            for (int i = 0; i < n; i++) {
                all *= 10;
            }
            return all;
        }

        /** Finds the best chance of n watches and the lowest order that begins it. */
        void weigh(int n) {
            Ship ship = world.first;
            best = 0;
            first = NONE;
            for (int order = 0; order < ORDERS; order++) {
                int chance = chanceBy(order, 0, ship.cell, ship.coal, ship.banked, n);
                if (chance != NONE && (first == NONE || chance > best)) {
                    best = chance;
                    first = order;
                }
            }
        }

        /** Of 10 to the watches left, if she begins with this order; NONE if she can't. */
        private int chanceBy(int order, int row, int cell, int coal, boolean banked, int left) {
            int price = helm.price(order, banked, outlook.tollOf(row, cell, order));
            if (price == NONE || price > coal) {
                return NONE;
            }
            if (leaves(order, cell)) {
                return tens(left);
            }
            int sum = 0;
            for (int v = 0; v < WINDS && left > 1; v++) {
                int tenths = sea.chance[WINDS * outlook.winds[row] + v];
                int to = helm.landing(order, cell, v);
                int next = Outlook.behind(row, v);
                if (tenths > 0 && outlook.nips[next][to] == 0) {
                    sum += tenths * bestFrom(next, to, coal - price, Helm.banksBehind(order, banked), left - 1);
                }
            }
            return sum;
        }

        private int bestFrom(int row, int cell, int coal, boolean banked, int left) {
            int most = 0;
            for (int order = 0; order < ORDERS; order++) {
                most = Math.max(most, chanceBy(order, row, cell, coal, banked, left));
            }
            return most;
        }

        private boolean leaves(int order, int cell) {
            int to = sea.beside(cell, order);
            return to != NONE && sea.exit[to];
        }

        /** The chance of n watches if all their winds were known, as they were weighed last. */
        int knownAhead(int n) {
            int rows = n == 3 ? WINDS * WINDS : n == 2 ? WINDS : 1;
            int sum = 0;
            Ship ship = world.first;
            for (int winds = 0; winds < rows; winds++) {
                int tenths = tenthsOf(winds, n - 1);
                if (tenths > 0 && getsOut(winds, 0, ship.cell, ship.coal, ship.banked, n)) {
                    sum += 10 * tenths;
                }
            }
            return sum;
        }

        /** The chance of a row of winds, two bits for each, the first one lowest. */
        private int tenthsOf(int winds, int many) {
            int chance = 1;
            int from = sea.wind;
            for (int i = 0; i < many; i++) {
                int v = winds >> 2 * i & 3;
                chance *= sea.chance[WINDS * from + v];
                from = v;
            }
            return chance;
        }

        private boolean getsOut(int winds, int row, int cell, int coal, boolean banked, int left) {
            for (int order = 0; order < ORDERS && left > 0; order++) {
                int price = helm.price(order, banked, outlook.tollOf(row, cell, order));
                if (price == NONE || price > coal) {
                    continue;
                }
                if (leaves(order, cell)) {
                    return true;
                }
                int v = winds & 3;
                int to = helm.landing(order, cell, v);
                int next = Outlook.behind(row, v);
                boolean banks = Helm.banksBehind(order, banked);
                if (left > 1 && outlook.nips[next][to] == 0
                        && getsOut(winds >> 2, next, to, coal - price, banks, left - 1)) {
                    return true;
                }
            }
            return false;
        }
    }
}
