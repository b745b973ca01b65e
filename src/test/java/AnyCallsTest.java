import java.lang.reflect.InvocationTargetException;
import java.lang.reflect.Method;
import java.util.ArrayList;
import java.util.Comparator;
import java.util.List;
import java.util.Random;

/** Any calls with any numbers: nothing is thrown, what is refused changes nothing, the same calls answer the same. */
public final class AnyCallsTest {
    private static final Check CHECK = new Check("AnyCallsTest");
    private static final int RUNS = 400, CALLS = 512;

    private static final String[] WORDS = {
        "p1 o0 l1 w0 d1 s0 i1", "p", "", "p123456", "p55 o0 w0 s1 l2 i2", "p000 s0 s1 s2 s3 l0 l1 l2",
        "p2312 o0 l1 w1 d2 s3 i4 o4", "p9 o0", "p111111 i0 i1 d2 o3 o4 l5 w6", "p1 o0 o2", "p23 o0 o1",
    };

    private static final int[] EDGES = {
        Integer.MIN_VALUE, -129, -2, -1, 40, 41, 80, 81, 127, 128, 255, 256, 2147483646, Integer.MAX_VALUE,
    };

    public static void main(String[] args) throws IllegalAccessException, InvocationTargetException {
        List<Method> calls = new ArrayList<>();
        for (Method method : PaperWalls.class.getDeclaredMethods()) {
            if (java.lang.reflect.Modifier.isPublic(method.getModifiers())) {
                calls.add(method);
            }
        }
        calls.sort(Comparator.comparing(Method::getName));
        for (int run = 0; run < RUNS; run++) {
            run(calls, new Random(run));
        }
        CHECK.end();
    }

    private static void run(List<Method> calls, Random random)
            throws IllegalAccessException, InvocationTargetException {
        PaperWalls one = new PaperWalls();
        PaperWalls other = new PaperWalls();
        for (int n = 0; n < CALLS; n++) {
            if (random.nextInt(60) == 0 || n == 0 && random.nextInt(8) != 0) {
                String words = WORDS[random.nextInt(WORDS.length)];
                int t = random.nextInt(4);
                Streets.write(one, t, words);
                Streets.write(other, t, words);
                CHECK.due("street", one.street(t), other.street(t));
            }
            Method call = calls.get(random.nextInt(calls.size()));
            Object[] numbers = new Object[call.getParameterCount()];
            for (int i = 0; i < numbers.length; i++) {
                numbers[i] = number(random);
            }
            long digest = one.digest();
            int asked = one.asked();
            int found = findings(one);
            long answer = ((Number) call.invoke(one, numbers)).longValue();
            long again = ((Number) call.invoke(other, numbers)).longValue();
            String name = call.getName() + " of " + List.of(numbers);
            CHECK.due(name + " in another object", again, answer);
            boolean isWide = call.getReturnType() == long.class || name.startsWith("asked");
            CHECK.due(name + " counts findings", findings(one) - found,
                !isWide && answer == PaperWalls.FINDING ? 1 : 0);
            if (!isWide && answer < 0) {
                CHECK.due(name + " is an answer", isAnswer(answer) ? 1 : 0, 1);
                CHECK.due(name + " was refused, digest", one.digest(), digest);
                CHECK.due(name + " was refused, asked()", one.asked(), asked);
            }
        }
        CHECK.due("digest of another object", other.digest(), one.digest());
    }

    private static boolean isAnswer(long answer) {
        return answer == PaperWalls.BAD || answer == PaperWalls.FULL || answer == PaperWalls.FINDING
            || answer == PaperWalls.STATE || answer == PaperWalls.NONE;
    }

    private static int findings(PaperWalls walls) {
        int all = 0;
        for (int f = 1; f <= 5; f++) {
            all += walls.findings(f);
        }
        return all;
    }

    private static int number(Random random) {
        switch (random.nextInt(12)) {
            case 0:
                return EDGES[random.nextInt(EDGES.length)];
            case 1:
                return random.nextInt();
            case 2:
                return random.nextInt(128);
            case 3:
                return random.nextInt(20) - 2;
            default:
                return random.nextInt(6);
        }
    }
}
