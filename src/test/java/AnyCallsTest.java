import java.lang.reflect.InvocationTargetException;
import java.lang.reflect.Method;
import java.lang.reflect.Modifier;
import java.util.ArrayList;
import java.util.Comparator;
import java.util.List;
import java.util.Random;

/**
 * Any calls with any numbers, as many as an object answers: nothing is thrown, findings are counted; and another
 * object, which gets just the calls that were not refused, answers them alike and looks alike at last.
 */
public final class AnyCallsTest {
    private static final Check CHECK = new Check("AnyCallsTest");
    private static final int RUNS = 1000, CALLS = 512, LOOKS = 20;

    private static final String[] WORDS = {
        "p1 o0 l1 w0 d1 s0 i1", "p", "", "p123456", "p55 o0 w0 s1 l2 i2", "p000 s0 s1 s2 s3 l0 l1 l2",
        "p2312 o0 l1 w1 d2 s3 i4 o4", "p9 o0", "p111111 i0 i1 d2 o3 o4 l5 w6", "p1 o0 o2", "p23 o0 o1",
    };

    private static final int[] EDGES = {
        Integer.MIN_VALUE, -129, -2, -1, 40, 41, 80, 81, 127, 128, 255, 256, 2147483646, Integer.MAX_VALUE,
    };

    public static void main(String[] args) throws IllegalAccessException, InvocationTargetException {
        List<Method> calls = new ArrayList<>();
        for (Method method : PaperWalls.class.getDeclaredMethods()) {
            if (Modifier.isPublic(method.getModifiers())) {
                calls.add(method);
            }
        }
        calls.sort(Comparator.comparing(Method::getName));
        for (int run = 0; run < RUNS; run++) {
            run(calls, new Random(run));
        }
        CHECK.end();
    }

    private static void run(List<Method> calls, Random random)
            throws IllegalAccessException, InvocationTargetException {
        PaperWalls all = new PaperWalls();
        PaperWalls accepted = new PaperWalls();
        int found = 0;
        int made = 0;
        while (made < CALLS - LOOKS - 40) {
            if (random.nextInt(60) == 0 || made == 0 && random.nextInt(8) != 0) {
                String words = WORDS[random.nextInt(WORDS.length)];
                int t = random.nextInt(4);
                Streets.write(all, t, words);
                Streets.write(accepted, t, words);
                CHECK.due("street", all.street(t), accepted.street(t));
                made += words.length() + 2;
            }
            Method call = calls.get(random.nextInt(calls.size()));
            Object[] numbers = new Object[call.getParameterCount()];
            for (int i = 0; i < numbers.length; i++) {
                numbers[i] = number(random);
            }
            long answer = ((Number) call.invoke(all, numbers)).longValue();
            made++;
            found += isRefusal(call, answer) && answer == PaperWalls.FINDING ? 1 : 0;
            if (!isRefusal(call, answer) && !call.getName().startsWith("finding")) {
                long again = ((Number) call.invoke(accepted, numbers)).longValue();
                CHECK.due(call.getName() + " of " + List.of(numbers) + ", without what was refused", again, answer);
            }
        }
        CHECK.due("asked() without what was refused", accepted.asked(), all.asked());
        CHECK.due("findings without what was refused", findings(accepted), 0);
        CHECK.due("findings of all that was answered", findings(all), found);
        CHECK.due("digest() without what was refused", accepted.digest(), all.digest());
        CHECK.due("safes() without what was refused", accepted.safes(), all.safes());
        CHECK.due("undo(0) without what was refused", accepted.undo(0), all.undo(0));
        CHECK.due("digest() then", accepted.digest(), all.digest());
    }

    private static boolean isRefusal(Method call, long answer) {
        boolean canRefuse = call.getParameterCount() > 0 || call.getName().equals("turns")
            || call.getName().equals("swap");
        if (canRefuse && answer < 0) {
            CHECK.due(call.getName() + " answers " + answer + ", which is told", isTold(answer) ? 1 : 0, 1);
        }
        return canRefuse && answer < 0;
    }

    private static boolean isTold(long answer) {
        return answer == PaperWalls.BAD || answer == PaperWalls.FULL || answer == PaperWalls.FINDING
            || answer == PaperWalls.STATE || answer == PaperWalls.NONE;
    }

    private static int findings(PaperWalls walls) {
        int all = 0;
        for (int f = 1; f <= 5; f++) {
            all += walls.findings(f);
        }
        return all;
    }

    private static int number(Random random) {
        switch (random.nextInt(12)) {
            case 0:
                return EDGES[random.nextInt(EDGES.length)];
            case 1:
                return random.nextInt();
            case 2:
                return random.nextInt(128);
            case 3:
                return random.nextInt(20) - 2;
            default:
                return random.nextInt(6);
        }
    }
}
