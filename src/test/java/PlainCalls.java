import java.nio.charset.StandardCharsets;
import java.util.ArrayList;
import java.util.Arrays;
import java.util.List;
import java.util.regex.Matcher;
import java.util.regex.Pattern;

/** The document said again call by call in the plainest way: what a call answers, and what asked() tells then. */
final class PlainCalls {
    private static final int BAD = -1, FULL = -2, FINDING = -3, STATE = -4, NONE = -9;
    private static final int NOTHING = 1, BEYOND = 2, UNLIKE = 3, NOUGHT = 4, SIZE = 5;
    private static final String LETTERS = "olwdsi";

    /** An hour: who told what, who heard it, and who knew each thing ahead of it. */
    private record Hour(int who, int thing, int heard, int[] knew) {
    }

    private record Kept(PlainWalls street, int[] known, List<Hour> hours) {
    }

    int[][] rows = new int[6][];
    byte[][] texts = new byte[4][];
    PlainWalls street = new PlainWalls();
    int[] known = new int[8];
    List<Hour> hours = new ArrayList<>();
    private Kept[] kept = new Kept[3];
    private int asked = 0;
    private int finding = 0;
    private final int[] findings = new int[6];

    /** What the call answers; all numbers that it takes stand in a. */
    long answer(String call, int... a) {
        return switch (call) {
            case "row" -> row(a[0], a[1]);
            case "lay" -> lay(a[0], a[1], a[2]);
            case "at" -> at(a[0], a[1]);
            case "tear" -> tear(a[0]);
            case "copy" -> copy(a[0], a[1], a[2], a[3], a[4]);
            case "mean" -> mean(a[0]);
            case "text" -> text(a[0], a[1]);
            case "put" -> put(a[0], a[1], a[2]);
            case "fault" -> isIn(a[0], 4) ? texts[a[0]] == null ? found(NOTHING) : fault(texts[a[0]]) : BAD;
            case "street" -> begin(a[0]);
            case "person" -> person(a[0], a[1]);
            case "mark" -> mark(a[0], a[1]);
            case "wall" -> wall(a[0], a[1]);
            case "move" -> move(a[0], a[1]);
            case "rooms" -> rooms(a[0]);
            case "swap" -> swap();
            case "paste" -> paste(a[0], a[1]);
            case "tearOff" -> tearOff(a[0], a[1]);
            case "rent" -> isRoom(a[0]) ? street.rent(a[0]) : BAD;
            case "keep" -> keep(a[0]);
            case "on" -> on(a[0]);
            case "nights" -> nights(a[0], a[1], a[2]);
            case "asked" -> asked;
            case "upper" -> lowest()[0];
            case "lower" -> lowest()[1];
            case "count" -> isIn(a[0], 9) ? counts()[a[0]] : BAD;
            case "finding" -> finding;
            case "findings" -> a[0] >= 1 && a[0] <= 5 ? findings[a[0]] : BAD;
            case "digest" -> digest();
            default -> call.matches("hears|heard|noise|hush|talk|off|about|safe|cover|beside|turns|most|safes")
                ? talking(call, a) : knowing(call, a);
        };
    }

    private int talking(String call, int... a) {
        return switch (call) {
            case "hears" -> hears(a[0], a[1]);
            case "heard" -> !isOne(a[0]) || !isSet(a[1]) || PlainWalls.has(a[1], a[0]) ? BAD
                : street.heard(a[0], a[1]);
            case "noise" -> isRoom(a[0]) && isSet(a[1]) ? street.noise(a[0], a[1]) : BAD;
            case "hush" -> isOne(a[0]) ? setTold(street.hush(a[0])) : BAD;
            case "talk" -> talk(a[0], a[1], a[2]);
            case "off" -> off(a[0]);
            case "about" -> about(a[0], a[1]);
            case "safe" -> safe(a[0], a[1]);
            case "cover" -> a[0] < 0 ? BAD : a[0] >= talks() ? found(BEYOND) : setTold(street.cover(a[0]));
            case "beside" -> a[0] < 0 || a[0] >= 1 << talks() ? BAD : street.beside(a[0]) ? 1 : 0;
            case "turns" -> turns();
            case "most" -> setTold(street.most());
            default -> setTold(street.safes());
        };
    }

    private int knowing(String call, int... a) {
        return switch (call) {
            case "comes" -> comes(a[0], a[1]);
            case "tell" -> tell(a[0], a[1]);
            case "undo" -> undo(a[0]);
            case "know" -> isIn(a[0], 8) ? known[a[0]] : BAD;
            case "knowsThat" -> knowsThat(a[0], a[1], a[2]);
            case "spread" -> isIn(a[0], 8) && isIn(a[1], 21) ? street.spread(known[a[0]], a[1]) : BAD;
            case "leak" -> isSet(a[0]) ? street.leak(a[0]) : BAD;
            case "leaks" -> isSet(a[0]) ? street.leaks(a[0]) : BAD;
            default -> throw new IllegalArgumentException(call);
        };
    }

    private static boolean isIn(int n, int end) {
        return n >= 0 && n < end;
    }

    private boolean isOne(int x) {
        return isIn(x, street.people());
    }

    private boolean areTwo(int x, int y) {
        return isOne(x) && isOne(y) && x != y;
    }

    private boolean isRoom(int room) {
        return !street.layers.isEmpty() && isIn(room, street.layers.size() + 1);
    }

    private boolean isSet(int set) {
        return isIn(set, 1 << street.people());
    }

    private int talks() {
        return street.talks.size();
    }

    private int found(int f) {
        finding = f;
        findings[f]++;
        return FINDING;
    }

    private int told(int answer, int tells) {
        asked = tells;
        return answer;
    }

    private int setTold(int set) {
        return set < 0 ? NONE : told(PlainWalls.size(set), set);
    }

    private int row(int r, int n) {
        if (!isIn(r, 6) || n > 40) {
            return BAD;
        }
        if (n < 0) {
            return found(SIZE);
        }
        rows[r] = new int[n];
        return n;
    }

    private int lay(int r, int i, int v) {
        int answer = at(r, i);
        if (answer == 1) {
            rows[r][i] = v;
        }
        return answer;
    }

    private int at(int r, int i) {
        if (!isIn(r, 6)) {
            return BAD;
        }
        if (rows[r] == null) {
            return found(NOTHING);
        }
        return isIn(i, rows[r].length) ? told(1, rows[r][i]) : found(BEYOND);
    }

    private int tear(int r) {
        if (!isIn(r, 6)) {
            return BAD;
        }
        if (rows[r] == null) {
            return found(NOTHING);
        }
        rows[r] = null;
        return 1;
    }

    private int copy(int r, int i, int to, int j, int n) {
        if (!isIn(r, 6) || !isIn(to, 6)) {
            return BAD;
        }
        if (n < 0) {
            return found(SIZE);
        }
        if (rows[r] == null || rows[to] == null) {
            return found(NOTHING);
        }
        if (i < 0 || j < 0 || (long) i + n > rows[r].length || (long) j + n > rows[to].length) {
            return found(BEYOND);
        }
        int[] taken = Arrays.copyOfRange(rows[r], i, i + n);
        for (int at = 0; at < n; at++) {
            rows[to][j + at] = taken[at];
        }
        return 1;
    }

    private int mean(int r) {
        if (!isIn(r, 6)) {
            return BAD;
        }
        if (rows[r] == null) {
            return found(NOTHING);
        }
        if (rows[r].length == 0) {
            return found(NOUGHT);
        }
        long sum = 0;
        for (int v : rows[r]) {
            sum += v;
        }
        return told(1, (int) (sum / rows[r].length));
    }

    private int text(int t, int n) {
        if (!isIn(t, 4) || n > 80) {
            return BAD;
        }
        if (n < 0) {
            return found(SIZE);
        }
        texts[t] = " ".repeat(n).getBytes(StandardCharsets.ISO_8859_1);
        return n;
    }

    private int put(int t, int i, int v) {
        if (!isIn(t, 4)) {
            return BAD;
        }
        if (texts[t] == null) {
            return found(NOTHING);
        }
        if (!isIn(i, texts[t].length)) {
            return found(BEYOND);
        }
        int was = texts[t][i];
        texts[t][i] = (byte) v;
        return 1000 + was;
    }

    /** One for each number of walls. */
    private static final List<Pattern> STREETS = new ArrayList<>();

    static {
        for (int walls = 1; walls <= 6; walls++) {
            STREETS.add(Pattern.compile(
                " *p[0-9]{" + walls + "}( *[" + LETTERS + "][0-" + walls + "]){0,7} *", Pattern.DOTALL));
        }
    }

    private static String words(byte[] text) {
        return new String(text, StandardCharsets.ISO_8859_1);
    }

    private static boolean isStreet(String words) {
        return STREETS.stream().anyMatch(form -> form.matcher(words).matches());
    }

    /** Whether something can stand behind these words so that all is a street. */
    private static boolean canGoOn(String words) {
        for (Pattern form : STREETS) {
            Matcher matcher = form.matcher(words);
            if (matcher.matches() || matcher.hitEnd()) {
                return true;
            }
        }
        return false;
    }

    private static int fault(byte[] text) {
        String words = words(text);
        for (int i = 0; i < words.length(); i++) {
            if (!canGoOn(words.substring(0, i + 1))) {
                return i;
            }
        }
        return isStreet(words) ? NONE : words.length();
    }

    private int begin(int t) {
        if (!isIn(t, 4)) {
            return BAD;
        }
        if (texts[t] == null) {
            return found(NOTHING);
        }
        if (fault(texts[t]) != NONE) {
            return STATE;
        }
        String close = words(texts[t]).replace(" ", "");
        String people = close.replaceFirst("p[0-9]+", "");
        street = new PlainWalls();
        for (char layers : close.substring(1, close.length() - people.length()).toCharArray()) {
            street.layers.add(layers - '0');
        }
        for (int at = 0; at < people.length(); at += 2) {
            street.letters.append(people.charAt(at));
            street.rooms.add(people.charAt(at + 1) - '0');
        }
        known = new int[8];
        hours = new ArrayList<>();
        kept = new Kept[3];
        return street.people();
    }

    private int[] traits(int x) {
        int things = 0;
        for (int thing = 0; thing < 8; thing++) {
            things += PlainWalls.has(known[thing], x) ? 1 << thing : 0;
        }
        int kind = LETTERS.indexOf(street.letters.charAt(x));
        return new int[] {kind, street.rooms.get(x), street.speaks(x), street.sings(x), things};
    }

    private int person(int x, int what) {
        return isOne(x) && isIn(what, 5) ? told(1, traits(x)[what]) : BAD;
    }

    private int mark(int x, int kind) {
        if (!isOne(x) || kind < 1 || kind > 5) {
            return BAD;
        }
        boolean isLoud = street.is(x, 'l') || street.is(x, 's');
        boolean isWhisperer = street.is(x, 'w') || street.is(x, 'i');
        if (kind == 1 && isLoud) {
            return PlainWalls.size(street.heard(x, 0));
        }
        if (kind == 2 && isWhisperer) {
            int same = 0;
            for (int y = 0; y < street.people(); y++) {
                same += y != x && street.rooms.get(y).equals(street.rooms.get(x)) ? 1 : 0;
            }
            return same;
        }
        if (kind == 3 && street.is(x, 'd')) {
            return howManyHeardBy(street, x);
        }
        if (kind == 4 && street.is(x, 's')) {
            return street.noise(0, 1 << x);
        }
        if (kind == 5 && street.is(x, 'i')) {
            PlainWalls other = street.copied();
            other.letters.setCharAt(x, 'o');
            return howManyHeardBy(street, x) - howManyHeardBy(other, x);
        }
        return found(UNLIKE);
    }

    private static int howManyHeardBy(PlainWalls street, int x) {
        int n = 0;
        for (int y = 0; y < street.people(); y++) {
            n += y != x && PlainWalls.has(street.heard(y, 0), x) ? 1 : 0;
        }
        return n;
    }

    private int wall(int i, int v) {
        return isIn(i, street.layers.size()) && isIn(v, 21) ? street.layers.set(i, v) : BAD;
    }

    private int move(int x, int room) {
        return isOne(x) && isRoom(room) ? street.rooms.set(x, room) : BAD;
    }

    private int hears(int x, int from) {
        if (!areTwo(x, from)) {
            return BAD;
        }
        int comes = street.less(street.speaks(from), street.rooms.get(x), street.rooms.get(from));
        return told(street.hears(x, from, 0, 0) ? 1 : 0, comes);
    }

    private int talk(int x, int to, int not) {
        if (!areTwo(x, to) || !isSet(not) || PlainWalls.has(not, x) || PlainWalls.has(not, to)) {
            return BAD;
        }
        if (talks() == 8) {
            return FULL;
        }
        street.talks.add(new int[] {x, to, not});
        return talks() - 1;
    }

    private int off(int n) {
        if (!isIn(n, talks() + 1)) {
            return BAD;
        }
        int off = talks() - n;
        street.talks.subList(n, talks()).clear();
        return off;
    }

    private int about(int k, int what) {
        if (k < 0 || !isIn(what, 3)) {
            return BAD;
        }
        return k < talks() ? told(1, street.talks.get(k)[what]) : found(BEYOND);
    }

    private int safe(int k, int singing) {
        if (k < 0 || !isSet(singing)) {
            return BAD;
        }
        if (k >= talks()) {
            return found(BEYOND);
        }
        int[] talk = street.talks.get(k);
        return told(street.isSafe(talk, singing, 0) ? 1 : 0, street.heard(talk[0], singing) & talk[2]);
    }

    private int turns() {
        int[] turns = street.turns();
        return turns == null ? NONE : told(turns[0], turns[1]);
    }

    private int rooms(int r) {
        if (!isIn(r, 6)) {
            return BAD;
        }
        if (street.people() == 0) {
            return STATE;
        }
        List<Integer> order = street.bestRooms();
        rows[r] = order.stream().mapToInt(Integer::intValue).toArray();
        return PlainWalls.size(street.ordered(order).safes());
    }

    private int swap() {
        int[] swap = street.swap();
        return swap == null ? NONE : told(10 * swap[0] + swap[1], swap[2]);
    }

    private int paste(int k, int r) {
        if (k < 0 || !isIn(r, 6)) {
            return BAD;
        }
        if (k >= talks()) {
            return found(BEYOND);
        }
        List<Integer> pasted = street.paste(k);
        if (pasted == null) {
            return NONE;
        }
        rows[r] = pasted.stream().mapToInt(Integer::intValue).toArray();
        return Arrays.stream(rows[r]).sum();
    }

    private int tearOff(int x, int from) {
        if (!areTwo(x, from)) {
            return BAD;
        }
        int[] torn = street.tearOff(x, from);
        return torn == null ? NONE : told(torn[0], torn[1]);
    }

    private int comes(int x, int thing) {
        if (!isOne(x) || !isIn(thing, 8)) {
            return BAD;
        }
        known[thing] |= 1 << x;
        return PlainWalls.size(known[thing]);
    }

    private int tell(int x, int thing) {
        if (!isOne(x) || !isIn(thing, 8)) {
            return BAD;
        }
        if (!PlainWalls.has(known[thing], x)) {
            return STATE;
        }
        if (hours.size() == 40) {
            return FULL;
        }
        hours.add(new Hour(x, thing, street.heard(x, 0), known.clone()));
        known[thing] |= street.heard(x, 0);
        return known[thing];
    }

    private int undo(int n) {
        if (!isIn(n, hours.size() + 1)) {
            return BAD;
        }
        int undone = hours.size() - n;
        for (int h = hours.size() - 1; h >= n; h--) {
            known = hours.remove(h).knew().clone();
        }
        return undone;
    }

    private int knowsThat(int x, int y, int thing) {
        if (!areTwo(x, y) || !isIn(thing, 8)) {
            return BAD;
        }
        for (Hour hour : hours) {
            boolean xHeard = PlainWalls.has(hour.heard(), x);
            boolean yHeard = PlainWalls.has(hour.heard(), y);
            boolean both = xHeard && yHeard && street.hears(x, y, 0, 0);
            boolean byOne = hour.who() == x && yHeard || hour.who() == y && xHeard;
            if (hour.thing() == thing && (both || byOne)) {
                return 1;
            }
        }
        return 0;
    }

    private int keep(int k) {
        if (!isIn(k, 3)) {
            return BAD;
        }
        if (street.people() == 0) {
            return STATE;
        }
        kept[k] = new Kept(street.copied(), known.clone(), new ArrayList<>(hours));
        return hours.size();
    }

    private int on(int k) {
        if (!isIn(k, 3)) {
            return BAD;
        }
        if (kept[k] == null) {
            return found(NOTHING);
        }
        street = kept[k].street().copied();
        known = kept[k].known().clone();
        hours = new ArrayList<>(kept[k].hours());
        return hours.size();
    }

    private int nights(int k, int n, int seed) {
        if (k < 0 || n < 1 || n > 60 || seed < 1 || seed == Integer.MAX_VALUE) {
            return BAD;
        }
        if (k >= talks()) {
            return found(BEYOND);
        }
        int nights = 0;
        int last = NONE;
        long number = seed;
        for (int night = 0; night < n; night++) {
            number = number * 48271 % 2147483647;
            int cries = (int) (number % street.people());
            if (street.isSafe(street.talks.get(k), 1 << cries, 0)) {
                nights++;
                last = cries;
            }
        }
        return told(nights, last);
    }

    private long[] lowest() {
        int pairs = street.people() * (street.people() - 1);
        int heard = 0;
        for (int x = 0; x < street.people(); x++) {
            heard += PlainWalls.size(street.heard(x, 0));
        }
        for (int lower = 1; lower <= pairs; lower++) {
            for (int upper = 0; upper <= lower; upper++) {
                if (upper * pairs == heard * lower) {
                    return new long[] {upper, lower};
                }
            }
        }
        return new long[] {0, 1};
    }

    private int[] counts() {
        int[] counts = new int[9];
        counts[0] = street.people();
        counts[1] = street.layers.size();
        counts[2] = talks();
        counts[3] = hours.size();
        for (int x = 0; x < street.people(); x++) {
            counts[4] += street.speaks(x) == 8 ? 1 : 0;
            counts[5] += street.speaks(x) == 2 ? 1 : 0;
        }
        counts[6] = (int) Arrays.stream(rows).filter(row -> row != null).count();
        counts[7] = (int) Arrays.stream(texts).filter(text -> text != null).count();
        counts[8] = (int) Arrays.stream(kept).filter(one -> one != null).count();
        return counts;
    }

    private long digest() {
        List<Integer> all = new ArrayList<>();
        Arrays.stream(counts()).forEach(all::add);
        all.addAll(street.layers);
        for (int x = 0; x < street.people(); x++) {
            Arrays.stream(traits(x)).forEach(all::add);
        }
        for (int[] talk : street.talks) {
            Arrays.stream(talk).forEach(all::add);
        }
        for (Hour hour : hours) {
            all.add(10 * hour.who() + hour.thing());
        }
        for (Kept one : kept) {
            all.add(one == null ? -1 : one.hours().size());
        }
        for (int[] row : rows) {
            all.add(row == null ? -1 : row.length);
            Arrays.stream(row == null ? new int[0] : row).forEach(all::add);
        }
        for (byte[] text : texts) {
            all.add(text == null ? -1 : text.length);
            for (byte v : text == null ? new byte[0] : text) {
                all.add((int) v);
            }
        }
        long h = 17;
        for (int v : all) {
            h = 31 * h + v;
        }
        return h;
    }
}
