/** A street of rooms between paper walls: who hears whom, which talks are safe, who knows what. */
public final class PaperWalls {
    public static final int BAD = -1, FULL = -2, FINDING = -3, STATE = -4, SPENT = -6, NONE = -9;

    private static final int NOTHING = 1, BEYOND = 2, UNLIKE = 3, NOUGHT = 4, SIZE = 5;
    private static final int ROWS = 6, TEXTS = 4, PLACES = 3;
    private static final int LAYERS_MOST = 20, PASTE_MOST = 6;
    private static final int SPREAD_MOST = 20, NIGHTS_MOST = 60;
    private static final int LOT_FACTOR = 48271, LOT_MODULUS = 2147483647;
    private static final int RENT_MOST = 20, RENT_LESS = 2;

    private final Row[] rows = new Row[ROWS];
    private final Text[] texts = new Text[TEXTS];
    private final Street now = new Street();
    private final Street trial = new Street();
    private final Street[] places = new Street[PLACES];
    private final boolean[] isKept = new boolean[PLACES];
    private final Plan plan = new Plan();
    private final Change change = new Change();
    private final Shares shares = new Shares();
    private final int[] tally = new int[SIZE + 1];
    private int told;
    private int latest;

    public PaperWalls() {
        for (int r = 0; r < ROWS; r++) {
            rows[r] = new Row();
        }
        for (int t = 0; t < TEXTS; t++) {
            texts[t] = new Text();
        }
        for (int k = 0; k < PLACES; k++) {
            places[k] = new Street();
        }
    }

    // ---- 1 rows, texts, streets

    public int row(int r, int n) {
        if (!isRow(r) || n > Row.MOST) {
            return BAD;
        }
        if (n < 0) {
            return find(SIZE);
        }
        rows[r].begin(n);
        return n;
    }

    public int lay(int r, int i, int v) {
        int answer = at(r, i);
        if (answer == 1) {
            rows[r].ints[i] = v;
        }
        return answer;
    }

    public int at(int r, int i) {
        if (!isRow(r)) {
            return BAD;
        }
        Row it = rows[r];
        if (it.isMissing()) {
            return find(NOTHING);
        }
        if (!it.has(i)) {
            return find(BEYOND);
        }
        told = it.ints[i];
        return 1;
    }

    public int tear(int r) {
        if (!isRow(r)) {
            return BAD;
        }
        if (rows[r].isMissing()) {
            return find(NOTHING);
        }
        rows[r].size = Row.MISSING;
        return 1;
    }

    public int copy(int r, int i, int to, int j, int n) {
        if (!isRow(r) || !isRow(to)) {
            return BAD;
        }
        if (n < 0) {
            return find(SIZE);
        }
        if (rows[r].isMissing() || rows[to].isMissing()) {
            return find(NOTHING);
        }
        if (!rows[r].holds(i, n) || !rows[to].holds(j, n)) {
            return find(BEYOND);
        }
        System.arraycopy(rows[r].ints, i, rows[to].ints, j, n);
        return 1;
    }

    public int mean(int r) {
        if (!isRow(r)) {
            return BAD;
        }
        Row it = rows[r];
        if (it.isMissing()) {
            return find(NOTHING);
        }
        if (it.size == 0) {
            return find(NOUGHT);
        }
        told = (int) (it.sum() / it.size);
        return 1;
    }

    public int text(int t, int n) {
        if (!isText(t) || n > Text.MOST) {
            return BAD;
        }
        if (n < 0) {
            return find(SIZE);
        }
        texts[t].begin(n);
        return n;
    }

    public int put(int t, int i, int v) {
        if (!isText(t)) {
            return BAD;
        }
        Text it = texts[t];
        if (it.isMissing()) {
            return find(NOTHING);
        }
        if (!it.has(i)) {
            return find(BEYOND);
        }
        int was = it.bytes[i];
        it.bytes[i] = (byte) v;
        return was + 1000;
    }

    public int fault(int t) {
        if (!isText(t)) {
            return BAD;
        }
        if (texts[t].isMissing()) {
            return find(NOTHING);
        }
        return trial.readFrom(texts[t]);
    }

    public int street(int t) {
        if (!isText(t)) {
            return BAD;
        }
        if (texts[t].isMissing()) {
            return find(NOTHING);
        }
        if (trial.readFrom(texts[t]) != NONE) {
            return STATE;
        }
        now.become(trial);
        for (int k = 0; k < PLACES; k++) {
            isKept[k] = false;
        }
        return now.people;
    }

    public int person(int x, int what) {
        if (!isOne(x) || what < 0 || what >= Street.TRAITS) {
            return BAD;
        }
        told = now.trait(x, what);
        return 1;
    }

    public int mark(int x, int kind) {
        if (!isOne(x) || kind <= Kinds.ONE || kind >= Kinds.HOW_MANY) {
            return BAD;
        }
        if (!Kinds.isOf(now.kinds[x], kind)) {
            return find(UNLIKE);
        }
        switch (kind) {
            case Kinds.LOUD:
                return Integer.bitCount(now.whoHear(x, 0));
            case Kinds.WHISPERER:
                return now.othersIn(x);
            case Kinds.DEAF:
                return now.howManyHeardAs(x, Kinds.DEAF);
            case Kinds.SINGER:
                return now.songIn(0, 1 << x);
            default:
                return now.howManyHeardAs(x, Kinds.LISTENER) - now.howManyHeardAs(x, Kinds.ONE);
        }
    }

    public int wall(int i, int v) {
        if (i < 0 || i >= now.walls || v < 0 || v > LAYERS_MOST) {
            return BAD;
        }
        int was = now.layers[i];
        now.layers[i] = v;
        now.measure();
        return was;
    }

    public int move(int x, int room) {
        if (!isOne(x) || !isRoom(room)) {
            return BAD;
        }
        int was = now.rooms[x];
        now.rooms[x] = room;
        return was;
    }

    // ---- 2 who hears

    public int hears(int x, int from) {
        if (!areTwo(x, from)) {
            return BAD;
        }
        told = now.comesTo(now.rooms[x], from);
        return now.isHeardBy(x, from) ? 1 : 0;
    }

    public int heard(int x, int singing) {
        if (!isOne(x) || !isSet(singing) || (singing >> x & 1) != 0) {
            return BAD;
        }
        return now.whoHear(x, singing);
    }

    public int noise(int room, int singing) {
        if (!isRoom(room) || !isSet(singing)) {
            return BAD;
        }
        return now.songIn(room, singing);
    }

    public int hush(int x) {
        if (!isOne(x)) {
            return BAD;
        }
        int best = NONE;
        for (int set = 0; set <= now.everyone(); set++) {
            if ((set >> x & 1) == 0 && isFewer(set, best) && now.whoHear(x, set) == 0) {
                best = set;
            }
        }
        return tellSet(best);
    }

    // ---- 3 talks

    public int talk(int x, int to, int not) {
        if (!areTwo(x, to) || !isSet(not) || (not >> x & 1) != 0 || (not >> to & 1) != 0) {
            return BAD;
        }
        if (now.talks >= Street.TALKS_MOST) {
            return FULL;
        }
        return now.addTalk(x, to, not);
    }

    public int off(int n) {
        if (n < 0 || n > now.talks) {
            return BAD;
        }
        int fewer = now.talks - n;
        now.talks = n;
        return fewer;
    }

    public int about(int k, int what) {
        if (k < 0 || what < 0 || what >= Street.POINTS) {
            return BAD;
        }
        if (k >= now.talks) {
            return find(BEYOND);
        }
        told = now.point(k, what);
        return 1;
    }

    public int safe(int k, int singing) {
        if (k < 0 || !isSet(singing)) {
            return BAD;
        }
        if (k >= now.talks) {
            return find(BEYOND);
        }
        told = now.whoHear(now.speaker[k], singing) & now.barred[k];
        return now.isSafe(k, singing) ? 1 : 0;
    }

    public int cover(int k) {
        if (k < 0) {
            return BAD;
        }
        if (k >= now.talks) {
            return find(BEYOND);
        }
        int best = NONE;
        for (int set = 0; set <= now.everyone(); set++) {
            if (isFewer(set, best) && now.isSafe(k, set)) {
                best = set;
            }
        }
        return tellSet(best);
    }

    public int beside(int set) {
        if (set < 0 || set > now.everyTalk()) {
            return BAD;
        }
        return now.goTogether(set) ? 1 : 0;
    }

    public int turns() {
        plan.draw(now);
        int hours = plan.hours(now);
        if (hours == NONE) {
            return NONE;
        }
        told = plan.firstHour(now);
        return hours;
    }

    public int most() {
        plan.draw(now);
        return tellSet(plan.largest(now));
    }

    public int safes() {
        return tellSet(now.safeTalks());
    }

    // ---- 4 rooms, walls

    public int rooms(int r) {
        if (!isRow(r)) {
            return BAD;
        }
        if (now.people == 0) {
            return STATE;
        }
        trial.become(now);
        change.search(now, trial);
        rows[r].fill(change.best, now.people);
        return change.most;
    }

    public int swap() {
        trial.become(now);
        int most = Integer.bitCount(now.safeTalks());
        int best = NONE;
        for (int x = 0; x < now.people; x++) {
            for (int y = x + 1; y < now.people; y++) {
                trial.rooms[x] = now.rooms[y];
                trial.rooms[y] = now.rooms[x];
                int safe = Integer.bitCount(trial.safeTalks());
                if (safe > most) {
                    most = safe;
                    best = 10 * x + y;
                }
                trial.rooms[x] = now.rooms[x];
                trial.rooms[y] = now.rooms[y];
            }
        }
        if (best != NONE) {
            told = most;
        }
        return best;
    }

    public int paste(int k, int r) {
        if (k < 0 || !isRow(r)) {
            return BAD;
        }
        if (k >= now.talks) {
            return find(BEYOND);
        }
        trial.become(now);
        for (int total = 0; total <= PASTE_MOST; total++) {
            if (isSafeByPasting(k, total)) {
                rows[r].fill(shares.of, now.walls);
                return total;
            }
        }
        return NONE;
    }

    public int tearOff(int x, int from) {
        if (!areTwo(x, from)) {
            return BAD;
        }
        int lacking = Kinds.LEAST[now.kinds[x]] - now.comesTo(now.rooms[x], from);
        if (lacking <= 0) {
            told = NONE;
            return 0;
        }
        int first = Math.min(now.rooms[x], now.rooms[from]);
        int behind = Math.max(now.rooms[x], now.rooms[from]);
        for (int i = first; i < behind; i++) {
            if (now.layers[i] >= lacking) {
                told = i;
                return lacking;
            }
        }
        return NONE;
    }

    public int rent(int room) {
        if (!isRoom(room)) {
            return BAD;
        }
        int laughter = 0;
        for (int x = 0; x < now.people; x++) {
            if (Kinds.isEnough(Kinds.ONE, now.comesTo(room, x), 0)) {
                laughter++;
            }
        }
        return Math.max(0, RENT_MOST - RENT_LESS * laughter);
    }

    // ---- 5 who knows what

    public int comes(int x, int thing) {
        if (!isOne(x) || !isThing(thing)) {
            return BAD;
        }
        now.hours.learn(thing, 1 << x);
        return Integer.bitCount(now.hours.whoKnow(thing));
    }

    public int tell(int x, int thing) {
        if (!isOne(x) || !isThing(thing)) {
            return BAD;
        }
        if ((now.hours.whoKnow(thing) >> x & 1) == 0) {
            return STATE;
        }
        if (now.hours.size >= Hours.MOST) {
            return FULL;
        }
        now.hours.add(x, thing, now.whoHear(x, 0));
        return now.hours.whoKnow(thing);
    }

    public int undo(int n) {
        if (n < 0 || n > now.hours.size) {
            return BAD;
        }
        int fewer = now.hours.size - n;
        now.hours.backTo(n);
        return fewer;
    }

    public int know(int thing) {
        if (!isThing(thing)) {
            return BAD;
        }
        return now.hours.whoKnow(thing);
    }

    public int knowsThat(int x, int y, int thing) {
        if (!areTwo(x, y) || !isThing(thing)) {
            return BAD;
        }
        boolean listens = now.isHeardBy(x, y);
        for (int h = 0; h < now.hours.size; h++) {
            if (now.hours.things[h] == thing && now.hours.showed(h, x, y, listens)) {
                return 1;
            }
        }
        return 0;
    }

    public int spread(int thing, int n) {
        if (!isThing(thing) || n < 0 || n > SPREAD_MOST) {
            return BAD;
        }
        int knowing = now.hours.whoKnow(thing);
        for (int h = 0; h < n; h++) {
            int tellers = knowing;
            for (int x = 0; x < now.people; x++) {
                if ((tellers >> x & 1) != 0) {
                    knowing |= now.whoHear(x, 0);
                }
            }
        }
        return knowing;
    }

    public int leak(int set) {
        if (!isSet(set)) {
            return BAD;
        }
        int who = 0;
        for (int x = 0; x < now.people; x++) {
            if (now.circleOf(x) == set) {
                who |= 1 << x;
            }
        }
        return who;
    }

    public int leaks(int set) {
        if (!isSet(set)) {
            return BAD;
        }
        int ways = 0;
        for (int x = 0; x < now.people; x++) {
            int knowing = now.circleOf(x);
            for (int y = 0; y < now.people; y++) {
                if ((knowing >> y & 1) != 0 && (knowing | now.circleOf(y)) == set) {
                    ways++;
                }
            }
        }
        return ways;
    }

    public int keep(int k) {
        if (!isPlace(k)) {
            return BAD;
        }
        if (now.people == 0) {
            return STATE;
        }
        places[k].become(now);
        isKept[k] = true;
        return now.hours.size;
    }

    public int on(int k) {
        if (!isPlace(k)) {
            return BAD;
        }
        if (!isKept[k]) {
            return find(NOTHING);
        }
        now.become(places[k]);
        return now.hours.size;
    }

    // ---- 6 nights

    public int nights(int k, int n, int seed) {
        if (k < 0 || n < 1 || n > NIGHTS_MOST || seed < 1 || seed >= LOT_MODULUS) {
            return BAD;
        }
        if (k >= now.talks || now.people == 0) {
            return find(BEYOND);
        }
        long lot = seed;
        int safe = 0;
        int last = NONE;
        for (int night = 0; night < n; night++) {
            lot = lot * LOT_FACTOR % LOT_MODULUS;
            int crier = (int) (lot % now.people);
            if (now.isSafe(k, 1 << crier)) {
                safe++;
                last = crier;
            }
        }
        told = last;
        return safe;
    }

    // ---- 7 what is told

    public int asked() {
        return told;
    }

    public long upper() {
        int heardPairs = now.heardPairs();
        return heardPairs / commonDivisor(heardPairs, now.pairs());
    }

    public long lower() {
        int pairs = now.pairs();
        return pairs == 0 ? 1 : pairs / commonDivisor(now.heardPairs(), pairs);
    }

    public int count(int what) {
        switch (what) {
            case 0:
                return now.people;
            case 1:
                return now.walls;
            case 2:
                return now.talks;
            case 3:
                return now.hours.size;
            case 4:
                return now.howManyOf(Kinds.LOUD);
            case 5:
                return now.howManyOf(Kinds.WHISPERER);
            case 6:
                return howManyRows();
            case 7:
                return howManyTexts();
            case 8:
                return howManyKept();
            default:
                return BAD;
        }
    }

    public int finding() {
        return latest;
    }

    public int findings(int f) {
        if (f < NOTHING || f > SIZE) {
            return BAD;
        }
        return tally[f];
    }

    public long digest() {
        long h = 17;
        for (int what = 0; what <= 8; what++) {
            h = 31 * h + count(what);
        }
        h = now.digestFrom(h);
        for (int k = 0; k < PLACES; k++) {
            h = 31 * h + (isKept[k] ? places[k].hours.size : -1);
        }
        for (int r = 0; r < ROWS; r++) {
            h = rows[r].digestFrom(h);
        }
        for (int t = 0; t < TEXTS; t++) {
            h = texts[t].digestFrom(h);
        }
        return h;
    }

    private static boolean isRow(int r) {
        return r >= 0 && r < ROWS;
    }

    private static boolean isText(int t) {
        return t >= 0 && t < TEXTS;
    }

    private static boolean isPlace(int k) {
        return k >= 0 && k < PLACES;
    }

    private static boolean isThing(int thing) {
        return thing >= 0 && thing < Hours.THINGS;
    }

    private boolean isOne(int x) {
        return x >= 0 && x < now.people;
    }

    private boolean areTwo(int x, int y) {
        return isOne(x) && isOne(y) && x != y;
    }

    private boolean isRoom(int room) {
        return now.walls > 0 && room >= 0 && room <= now.walls;
    }

    private boolean isSet(int set) {
        return set >= 0 && set <= now.everyone();
    }

    private int find(int f) {
        latest = f;
        tally[f]++;
        return FINDING;
    }

    private static boolean isFewer(int set, int than) {
        return than == NONE || Integer.bitCount(set) < Integer.bitCount(than);
    }

    private int tellSet(int set) {
        if (set == NONE) {
            return NONE;
        }
        told = set;
        return Integer.bitCount(set);
    }

    private boolean isSafeByPasting(int k, int total) {
        shares.begin(now.walls, total);
        for (int way = 0; way < Shares.WAYS_MOST; way++) {
            for (int i = 0; i < now.walls; i++) {
                trial.layers[i] = now.layers[i] + shares.of[i];
            }
            trial.measure();
            if (trial.isSafe(k, 0)) {
                return true;
            }
            if (!shares.advance()) {
                return false;
            }
        }
        return false;
    }

    /** At least 1, so that it may divide. */
    private static int commonDivisor(int a, int b) {
        int greater = Math.max(a, b);
        for (int d = greater; d > 1; d--) {
            if (a % d == 0 && b % d == 0) {
                return d;
            }
        }
        return 1;
    }

    private int howManyRows() {
        int n = 0;
        for (int r = 0; r < ROWS; r++) {
            n += rows[r].isMissing() ? 0 : 1;
        }
        return n;
    }

    private int howManyTexts() {
        int n = 0;
        for (int t = 0; t < TEXTS; t++) {
            n += texts[t].isMissing() ? 0 : 1;
        }
        return n;
    }

    private int howManyKept() {
        int n = 0;
        for (int k = 0; k < PLACES; k++) {
            n += isKept[k] ? 1 : 0;
        }
        return n;
    }

    /** A row of ints, or missing. */
    static final class Row {
        static final int MOST = 40, MISSING = -1;

        final int[] ints = new int[MOST];
        int size = MISSING;

        boolean isMissing() {
            return size < 0;
        }

        boolean has(int i) {
            return i >= 0 && i < size;
        }

        boolean holds(int i, int n) {
            return i >= 0 && i <= size && n <= size - i;
        }

        void begin(int n) {
            size = n;
            for (int i = 0; i < MOST; i++) {
                ints[i] = 0;
            }
        }

        void fill(int[] from, int n) {
            begin(n);
            System.arraycopy(from, 0, ints, 0, n);
        }

        long sum() {
            long all = 0;
            for (int i = 0; i < size; i++) {
                all += ints[i];
            }
            return all;
        }

        long digestFrom(long start) {
            long h = 31 * start + size;
            for (int i = 0; i < size; i++) {
                h = 31 * h + ints[i];
            }
            return h;
        }
    }

    /** A row of bytes, or missing. */
    static final class Text {
        static final int MOST = 80, MISSING = -1;
        static final int BLANK = 32, END = 1000;

        final byte[] bytes = new byte[MOST];
        int size = MISSING;

        boolean isMissing() {
            return size < 0;
        }

        boolean has(int i) {
            return i >= 0 && i < size;
        }

        void begin(int n) {
            size = n;
            for (int i = 0; i < MOST; i++) {
                bytes[i] = BLANK;
            }
        }

        /** END, which is no byte, behind the last one. */
        int sign(int i) {
            return has(i) ? bytes[i] : END;
        }

        boolean isFigure(int i) {
            return sign(i) >= 48 && sign(i) <= 57;
        }

        int pastBlanks(int from) {
            int i = from;
            while (i < size && sign(i) == BLANK) {
                i++;
            }
            return i;
        }

        long digestFrom(long start) {
            long h = 31 * start + size;
            for (int i = 0; i < size; i++) {
                h = 31 * h + bytes[i];
            }
            return h;
        }
    }

    /** What people of each kind are like, by the kind's number. */
    static final class Kinds {
        static final int ONE = 0, LOUD = 1, WHISPERER = 2, DEAF = 3, SINGER = 4, LISTENER = 5;
        static final int HOW_MANY = 6;

        static final int[] LETTERS = {111, 108, 119, 100, 115, 105};
        static final int[] WIDER = {0, 0, 0, 0, 1, 2};
        static final int[] SPEAKS = {5, 8, 2, 5, 8, 2};
        static final int[] SINGS = {5, 8, 2, 5, 10, 2};
        static final int[] LEAST = {1, 1, 1, 4, 1, 0};

        static boolean isOf(int kind, int wanted) {
            return kind == wanted || WIDER[kind] == wanted;
        }

        static boolean isEnough(int kind, int coming, int noise) {
            boolean clear = coming > noise || kind == LISTENER && coming == noise;
            return clear && coming >= LEAST[kind];
        }

        static int byLetter(int letter) {
            for (int kind = 0; kind < HOW_MANY; kind++) {
                if (LETTERS[kind] == letter) {
                    return kind;
                }
            }
            return NONE;
        }
    }

    /** People, walls, talks and hours: all that is kept of a street. */
    static final class Street {
        static final int WALLS_MOST = 6, PEOPLE_MOST = 7, TALKS_MOST = 8;
        static final int TRAITS = 5, POINTS = 3;

        final int[] layers = new int[WALLS_MOST];
        /** The layers between room 0 and each room. */
        final int[] depth = new int[WALLS_MOST + 1];
        final int[] kinds = new int[PEOPLE_MOST];
        final int[] rooms = new int[PEOPLE_MOST];
        final int[] speaker = new int[TALKS_MOST];
        final int[] hearer = new int[TALKS_MOST];
        final int[] barred = new int[TALKS_MOST];
        final Hours hours = new Hours();
        int walls;
        int people;
        int talks;

        void become(Street that) {
            walls = that.walls;
            people = that.people;
            talks = that.talks;
            System.arraycopy(that.layers, 0, layers, 0, WALLS_MOST);
            System.arraycopy(that.depth, 0, depth, 0, WALLS_MOST + 1);
            System.arraycopy(that.kinds, 0, kinds, 0, PEOPLE_MOST);
            System.arraycopy(that.rooms, 0, rooms, 0, PEOPLE_MOST);
            System.arraycopy(that.speaker, 0, speaker, 0, TALKS_MOST);
            System.arraycopy(that.hearer, 0, hearer, 0, TALKS_MOST);
            System.arraycopy(that.barred, 0, barred, 0, TALKS_MOST);
            hours.become(that.hours);
        }

        /** The fault, or NONE; a street with a fault is read up to it. */
        int readFrom(Text text) {
            walls = 0;
            people = 0;
            talks = 0;
            hours.begin();
            int i = text.pastBlanks(0);
            if (text.sign(i) != 'p') {
                return i;
            }
            i++;
            while (walls < WALLS_MOST && text.isFigure(i)) {
                layers[walls] = text.sign(i) - '0';
                walls++;
                i++;
            }
            measure();
            return walls == 0 ? i : readPeople(text, i);
        }

        private int readPeople(Text text, int from) {
            int i = text.pastBlanks(from);
            while (i < text.size && people < PEOPLE_MOST) {
                int kind = Kinds.byLetter(text.sign(i));
                if (kind == NONE) {
                    return i;
                }
                int room = text.sign(i + 1) - '0';
                if (room < 0 || room > walls) {
                    return i + 1;
                }
                kinds[people] = kind;
                rooms[people] = room;
                people++;
                i = text.pastBlanks(i + 2);
            }
            return i < text.size ? i : NONE;
        }

        void measure() {
            for (int i = 0; i < walls; i++) {
                depth[i + 1] = depth[i] + layers[i];
            }
        }

        int everyone() {
            return (1 << people) - 1;
        }

        int everyTalk() {
            return (1 << talks) - 1;
        }

        int trait(int x, int what) {
            switch (what) {
                case 0:
                    return kinds[x];
                case 1:
                    return rooms[x];
                case 2:
                    return Kinds.SPEAKS[kinds[x]];
                case 3:
                    return Kinds.SINGS[kinds[x]];
                default:
                    return hours.thingsOf(x);
            }
        }

        int howManyOf(int kind) {
            int n = 0;
            for (int x = 0; x < people; x++) {
                n += Kinds.isOf(kinds[x], kind) ? 1 : 0;
            }
            return n;
        }

        int othersIn(int x) {
            int n = -1;
            for (int y = 0; y < people; y++) {
                n += rooms[y] == rooms[x] ? 1 : 0;
            }
            return n;
        }

        /** Negative, if the walls hold back more than is spoken. */
        int comesTo(int room, int from) {
            return Kinds.SPEAKS[kinds[from]] - Math.abs(depth[room] - depth[rooms[from]]);
        }

        int songIn(int room, int singing) {
            return loudestIn(room, singing, Kinds.SINGS);
        }

        private int loudestIn(int room, int set, int[] voice) {
            int loudest = 0;
            for (int x = 0; x < people && set >> x != 0; x++) {
                if ((set >> x & 1) != 0) {
                    int coming = voice[kinds[x]] - Math.abs(depth[room] - depth[rooms[x]]);
                    loudest = Math.max(loudest, coming);
                }
            }
            return loudest;
        }

        boolean isHeardBy(int x, int from) {
            return Kinds.isEnough(kinds[x], comesTo(rooms[x], from), 0);
        }

        int whoHear(int from, int singing) {
            return whoHearOf(everyone(), from, singing, 0);
        }

        /** Who hears one, of a set, while some sing and others speak, too. */
        private int whoHearOf(int set, int from, int singing, int speaking) {
            int able = set & ~singing & ~(1 << from);
            int who = 0;
            for (int x = 0; x < people && able >> x != 0; x++) {
                if ((able >> x & 1) != 0) {
                    int song = loudestIn(rooms[x], singing, Kinds.SINGS);
                    int noise = Math.max(song, loudestIn(rooms[x], speaking, Kinds.SPEAKS));
                    if (Kinds.isEnough(kinds[x], comesTo(rooms[x], from), noise)) {
                        who |= 1 << x;
                    }
                }
            }
            return who;
        }

        /** Whom a thing told by one, who alone knew it, is known to then. */
        int circleOf(int x) {
            return whoHear(x, 0) | 1 << x;
        }

        int howManyHeardAs(int x, int kind) {
            int n = 0;
            for (int y = 0; y < people; y++) {
                if (y != x && Kinds.isEnough(kind, comesTo(rooms[x], y), 0)) {
                    n++;
                }
            }
            return n;
        }

        int heardPairs() {
            int n = 0;
            for (int x = 0; x < people; x++) {
                n += Integer.bitCount(whoHear(x, 0));
            }
            return n;
        }

        int pairs() {
            return people * Math.max(0, people - 1);
        }

        int addTalk(int x, int to, int not) {
            speaker[talks] = x;
            hearer[talks] = to;
            barred[talks] = not;
            talks++;
            return talks - 1;
        }

        int point(int k, int what) {
            return what == 0 ? speaker[k] : what == 1 ? hearer[k] : barred[k];
        }

        int bothOf(int k) {
            return 1 << speaker[k] | 1 << hearer[k];
        }

        boolean isSafe(int k, int singing) {
            return (singing & bothOf(k)) == 0 && isHeardRightly(k, everyone(), singing, 0);
        }

        /** By just the one who has to hear, as far as these ears go. */
        private boolean isHeardRightly(int k, int ears, int singing, int speaking) {
            int due = ears & 1 << hearer[k];
            return whoHearOf(due | ears & barred[k], speaker[k], singing, speaking) == due;
        }

        int safeTalks() {
            int set = 0;
            for (int k = 0; k < talks; k++) {
                if (isSafe(k, 0)) {
                    set |= 1 << k;
                }
            }
            return set;
        }

        /** Those of a set of talks for which nothing is wrong between x and those ahead of x. */
        int stillSafe(int set, int x) {
            int still = set;
            for (int k = 0; k < talks; k++) {
                int laterEars = speaker[k] < x ? 1 << x : 0;
                int ears = speaker[k] == x ? (1 << x) - 1 : laterEars;
                if ((set >> k & 1) != 0 && !isHeardRightly(k, ears, 0, 0)) {
                    still &= ~(1 << k);
                }
            }
            return still;
        }

        boolean goTogether(int set) {
            int busy = 0;
            int speakers = 0;
            for (int k = 0; k < talks; k++) {
                if ((set >> k & 1) != 0) {
                    if ((busy & bothOf(k)) != 0) {
                        return false;
                    }
                    busy |= bothOf(k);
                    speakers |= 1 << speaker[k];
                }
            }
            for (int k = 0; k < talks; k++) {
                int others = speakers & ~(1 << speaker[k]);
                if ((set >> k & 1) != 0 && !isHeardRightly(k, everyone(), 0, others)) {
                    return false;
                }
            }
            return true;
        }

        long digestFrom(long start) {
            long h = start;
            for (int i = 0; i < walls; i++) {
                h = 31 * h + layers[i];
            }
            for (int x = 0; x < people; x++) {
                for (int what = 0; what < TRAITS; what++) {
                    h = 31 * h + trait(x, what);
                }
            }
            for (int k = 0; k < talks; k++) {
                for (int what = 0; what < POINTS; what++) {
                    h = 31 * h + point(k, what);
                }
            }
            return hours.digestFrom(h);
        }
    }

    /** What is known, and the hours in which it was told. */
    static final class Hours {
        static final int MOST = 40, THINGS = 8;

        final int[] tellers = new int[MOST];
        final int[] things = new int[MOST];
        final int[] heardBy = new int[MOST];
        final long[] ahead = new long[MOST];
        /** Eight bits a thing: who know it. */
        long known;
        int size;

        void begin() {
            known = 0;
            size = 0;
        }

        void become(Hours that) {
            System.arraycopy(that.tellers, 0, tellers, 0, MOST);
            System.arraycopy(that.things, 0, things, 0, MOST);
            System.arraycopy(that.heardBy, 0, heardBy, 0, MOST);
            System.arraycopy(that.ahead, 0, ahead, 0, MOST);
            known = that.known;
            size = that.size;
        }

        int whoKnow(int thing) {
            return (int) (known >>> 8 * thing) & 255;
        }

        int thingsOf(int x) {
            int bits = 0;
            for (int thing = 0; thing < THINGS; thing++) {
                bits |= (whoKnow(thing) >> x & 1) << thing;
            }
            return bits;
        }

        void learn(int thing, int who) {
            known |= (long) who << 8 * thing;
        }

        void add(int teller, int thing, int who) {
            tellers[size] = teller;
            things[size] = thing;
            heardBy[size] = who;
            ahead[size] = known;
            size++;
            learn(thing, who);
        }

        void backTo(int n) {
            if (n < size) {
                known = ahead[n];
                size = n;
            }
        }

        /** Whether hour h showed x that y knows; listens: x hears y now. */
        boolean showed(int h, int x, int y, boolean listens) {
            boolean xHeard = (heardBy[h] >> x & 1) != 0;
            boolean yHeard = (heardBy[h] >> y & 1) != 0;
            return xHeard && yHeard && listens
                || tellers[h] == x && yHeard
                || tellers[h] == y && xHeard;
        }

        long digestFrom(long start) {
            long h = start;
            for (int i = 0; i < size; i++) {
                h = 31 * h + 10 * tellers[i] + things[i];
            }
            return h;
        }
    }

    /** Which sets of talks go side by side, and in how few hours each set can be. */
    static final class Plan {
        static final int SETS = 1 << Street.TALKS_MOST, NEVER = 100;

        final boolean[] together = new boolean[SETS];
        final int[] fewest = new int[SETS];

        void draw(Street street) {
            for (int set = 0; set <= street.everyTalk(); set++) {
                together[set] = street.goTogether(set);
                fewest[set] = set == 0 ? 0 : fewestOf(set);
            }
        }

        /** The hour of a set's first talk is tried in all ways; less than the set is known already. */
        private int fewestOf(int set) {
            int first = set & -set;
            int best = NEVER;
            for (int part = set; part > 0; part = part - 1 & set) {
                if ((part & first) != 0 && together[part]) {
                    best = Math.min(best, 1 + fewest[set & ~part]);
                }
            }
            return best;
        }

        int hours(Street street) {
            int n = fewest[street.everyTalk()];
            return n < NEVER ? n : NONE;
        }

        int firstHour(Street street) {
            int all = street.everyTalk();
            for (int set = 1; set <= all; set += 2) {
                if (together[set] && 1 + fewest[all & ~set] == fewest[all]) {
                    return set;
                }
            }
            return 0;
        }

        int largest(Street street) {
            int best = 0;
            for (int set = 0; set <= street.everyTalk(); set++) {
                if (together[set] && Integer.bitCount(set) > Integer.bitCount(best)) {
                    best = set;
                }
            }
            return best;
        }
    }

    /**
     * The first of the ways to change rooms by which most talks are safe. Rooms are given one by one,
     * and a way is left as soon as too few talks can still be safe by it: all ways would be 5040.
     */
    static final class Change {
        final int[] whose = new int[Street.PEOPLE_MOST];
        final int[] best = new int[Street.PEOPLE_MOST];
        int most;

        void search(Street street, Street trial) {
            most = NONE;
            place(this, street, trial, 0, street.everyone(), street.everyTalk());
        }

        /** Gives a room to x, who is as deep as this goes, and to all behind; free: whose rooms are left. */
        private static void place(Change it, Street street, Street trial, int x, int free, int talks) {
            if (Integer.bitCount(talks) <= it.most) {
                return;
            }
            if (x >= street.people) {
                it.most = Integer.bitCount(talks);
                System.arraycopy(it.whose, 0, it.best, 0, Street.PEOPLE_MOST);
                return;
            }
            for (int y = 0; y < street.people; y++) {
                if ((free >> y & 1) != 0) {
                    it.whose[x] = y;
                    trial.rooms[x] = street.rooms[y];
                    place(it, street, trial, x + 1, free & ~(1 << y), trial.stillSafe(talks, x));
                }
            }
        }
    }

    /** All ways to share a total out among walls, one behind the other, the least first. */
    static final class Shares {
        static final int WAYS_MOST = 1000;

        final int[] of = new int[Street.WALLS_MOST];
        int size;

        void begin(int n, int total) {
            size = n;
            for (int i = 0; i < n; i++) {
                of[i] = i == n - 1 ? total : 0;
            }
        }

        boolean advance() {
            int i = size - 1;
            while (i > 0 && of[i] == 0) {
                i--;
            }
            if (i <= 0) {
                return false;
            }
            int rest = of[i] - 1;
            of[i] = 0;
            of[i - 1]++;
            of[size - 1] = rest;
            return true;
        }
    }
}
