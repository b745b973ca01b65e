import java.lang.reflect.InvocationTargetException;
import java.lang.reflect.Method;
import java.util.Arrays;
import java.util.Random;
import java.util.TreeMap;

/**
 * Any calls one behind the other, most with numbers that they take: each answer, what asked() and finding() tell
 * then, and digest() at last, against PlainCalls, which says the document again.
 */
public final class AnyAnswersTest {
    private static final Check CHECK = new Check("AnyAnswersTest");
    private static final int RUNS = 300, CALLS = 512;

    /** Each call with what its numbers are (number() tells); it stands here as often as it should come. */
    private static final String[] CALLED = {
        "row r n", "row r n", "lay r i v", "lay r i v", "lay r i v", "at r i", "at r i", "tear r", "mean r",
        "copy r i r i n", "copy r i r i n", "text t z", "put t p b", "put t p b", "fault t", "street u",
        "person x e", "mark x k", "mark x k", "wall w l", "wall w l", "move x m", "move x m", "hears x x",
        "hears x x", "heard x s", "heard x s", "noise m s", "hush x", "talk x x d", "talk x x d", "talk x x d",
        "talk x x d", "off N", "about T a", "safe T s", "safe T s", "cover T", "beside S", "beside S", "turns",
        "most", "safes", "rooms r", "swap", "paste T r", "paste T r", "tearOff x x", "tearOff x x", "rent m",
        "comes x c", "comes x c", "tell x c", "tell x c", "tell x c", "tell x c", "tell x c", "undo h", "know c",
        "knowsThat x x c", "knowsThat x x c", "knowsThat x x c", "spread c g", "leak o", "leaks O", "leaks s",
        "keep q", "keep q", "on q", "on q", "nights T G D", "asked", "upper", "lower", "count C", "finding",
        "findings f", "digest",
    };

    private static final int[] EDGES = {
        Integer.MIN_VALUE, -1, -1, 5, 6, 7, 8, 9, 20, 21, 40, 41, 60, 61, 80, 81, 256, Integer.MAX_VALUE,
    };

    private static final TreeMap<String, Method> METHODS = new TreeMap<>();

    static {
        for (Method method : PaperWalls.class.getDeclaredMethods()) {
            METHODS.put(method.getName(), method);
        }
    }

    private final Random random;
    private final PaperWalls walls = new PaperWalls();
    private final PlainCalls plain = new PlainCalls();
    private int made = 0;

    private AnyAnswersTest(int seed) {
        random = new Random(seed);
    }

    public static void main(String[] args) throws ReflectiveOperationException {
        int from = args.length > 0 ? Integer.parseInt(args[0]) : 0;
        int runs = args.length > 1 ? Integer.parseInt(args[1]) : RUNS;
        for (int seed = from; seed < from + runs; seed++) {
            new AnyAnswersTest(seed).run("run " + seed);
        }
        CHECK.end();
    }

    private void run(String name) throws ReflectiveOperationException {
        // few rows and things mostly, so that a run comes back to what it did
        int fewer = 1 + random.nextInt(random.nextInt(4) == 0 ? 8 : 3);
        while (made < CALLS - 100) {
            if (made == 0 || random.nextInt(300) == 0) {
                write(name, random.nextInt(4));
            }
            String[] called = CALLED[random.nextInt(CALLED.length)].split(" ");
            call(name, called[0], numbers(called, fewer));
            call(name, random.nextBoolean() ? "asked" : "finding");
        }
        call(name, "digest");
    }

    private void call(String name, String call, int... numbers)
            throws IllegalAccessException, InvocationTargetException {
        made++;
        Object[] boxed = Arrays.stream(numbers).boxed().toArray();
        long got = ((Number) METHODS.get(call).invoke(walls, boxed)).longValue();
        String told = name + ", call " + made + ": " + call + " of " + Arrays.toString(numbers);
        CHECK.due(told, got, plain.answer(call, numbers));
    }

    /** A street, or nearly one, into a text; and read. */
    private void write(String name, int t) throws ReflectiveOperationException {
        String words = words();
        call(name, "text", t, words.length());
        for (int i = 0; i < words.length(); i++) {
            if (words.charAt(i) != ' ') {
                call(name, "put", t, i, words.charAt(i));
            }
        }
        call(name, "fault", t);
        call(name, "street", t);
    }

    private String words() {
        StringBuilder words = new StringBuilder(" ".repeat(random.nextInt(2))).append('p');
        int rooms = 1 + random.nextInt(6);
        int thick = 1 + random.nextInt(6);
        for (int i = 0; i < rooms; i++) {
            words.append(random.nextInt(thick));
        }
        int people = random.nextInt(12) == 0 ? random.nextInt(3) : 3 + random.nextInt(5);
        for (int x = 0; x < people; x++) {
            words.append(" ".repeat(random.nextInt(3))).append("olwdsi".charAt(random.nextInt(6)));
            words.append(random.nextInt(rooms + 1));
        }
        words.append(" ".repeat(random.nextInt(3)));
        if (random.nextInt(8) == 0) {
            int at = random.nextInt(words.length());
            words.setCharAt(at, (char) (random.nextBoolean() ? 32 + random.nextInt(96) : random.nextInt(256)));
        }
        return words.toString();
    }

    /** Mostly such that the call is not refused: another one, none of both, one who knows the thing. */
    private int[] numbers(String[] called, int fewer) {
        int[] numbers = new int[called.length - 1];
        int people = plain.street.people();
        for (int i = 0; i < numbers.length; i++) {
            char what = called[i + 1].charAt(0);
            numbers[i] = number(what, fewer);
            if (i == 1 && what == 'x' && numbers[1] == numbers[0] && people > 1 && random.nextInt(9) != 0) {
                numbers[1] = (numbers[0] + 1) % people;
            }
            if (what == 'd' && people > 1 && random.nextInt(9) != 0) {
                numbers[2] &= ~(1 << numbers[0] | 1 << numbers[1]);
            }
        }
        if (called[0].equals("tell") && random.nextInt(9) != 0 && plain.known[numbers[1]] != 0) {
            numbers[0] = Integer.numberOfTrailingZeros(plain.known[numbers[1]] & ~random.nextInt(1 << people));
        }
        int at = numbers.length == 0 ? 0 : random.nextInt(numbers.length);
        if (numbers.length > 0 && random.nextInt(15) == 0) {
            numbers[at] = EDGES[random.nextInt(EDGES.length)];
        }
        return numbers;
    }

    /** One that a call takes now, by the letter that stands with it in CALLED; now and then just beyond. */
    private int number(char what, int fewer) {
        int people = plain.street.people();
        int walls = plain.street.layers.size();
        int talks = plain.street.talks.size();
        boolean isWide = random.nextInt(20) == 0;
        return switch (what) {
            case 'r' -> random.nextInt(isWide ? 6 : Math.min(6, fewer));
            case 'n' -> random.nextInt(isWide ? 41 : 4);
            case 'i' -> random.nextInt(isWide ? 40 : 3);
            case 'v' -> isWide ? random.nextInt() : random.nextInt(20) - 10;
            case 't' -> random.nextInt(4);
            case 'u' -> isWide ? random.nextInt(4) : -1;
            case 'z' -> random.nextInt(81);
            case 'p' -> random.nextInt(12);
            case 'b' -> isWide ? random.nextInt() : " p0123olwdsi".charAt(random.nextInt(12));
            case 'x' -> random.nextInt(Math.max(1, people));
            case 'e', 'g' -> random.nextInt(5);
            case 'k' -> kind();
            case 'w' -> random.nextInt(Math.max(1, walls));
            case 'l' -> random.nextInt(isWide ? 21 : 6);
            case 'm' -> random.nextInt(walls + 1);
            case 's' -> random.nextInt(1 << people) & (random.nextBoolean() ? -1 : random.nextInt(128));
            case 'o' -> people == 0 ? 0 : circle(random.nextInt(people));
            case 'O' -> people == 0 ? 0 : circle(random.nextInt(people)) | circle(random.nextInt(people));
            case 'd' -> random.nextInt(1 << people) & random.nextInt(128);
            case 'T' -> random.nextInt(talks + (isWide ? 1 : 0) + (talks == 0 ? 1 : 0));
            case 'N' -> random.nextInt(3) == 0 ? random.nextInt(talks + 1) : talks;
            case 'S' -> random.nextInt(1 << talks) & (random.nextBoolean() ? -1 : random.nextInt(256));
            case 'a', 'q' -> random.nextInt(3);
            case 'c' -> random.nextInt(fewer);
            case 'h' -> Math.max(0, plain.hours.size() - random.nextInt(3));
            case 'G' -> 1 + random.nextInt(60);
            case 'D' -> 1 + random.nextInt(random.nextBoolean() ? 100 : Integer.MAX_VALUE - 1);
            case 'C' -> random.nextInt(9);
            case 'f' -> 1 + random.nextInt(5);
            default -> throw new IllegalArgumentException(String.valueOf(what));
        };
    }

    private int circle(int x) {
        return plain.street.heard(x, 0) | 1 << x;
    }

    /** Of a kind that somebody is of, or any. */
    private int kind() {
        String letters = plain.street.letters.toString();
        if (letters.isEmpty() || random.nextInt(4) == 0) {
            return random.nextInt(7);
        }
        return "olwdsi".indexOf(letters.charAt(random.nextInt(letters.length())));
    }
}
