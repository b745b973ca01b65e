import java.util.ArrayList;
import java.util.List;
import java.util.function.Consumer;
import java.util.function.Supplier;

/**
 * Two objects made alike, of which one gets a call more: whatever else is asked of both must be answered alike.
 * An object answers 512 calls only, so each way to look at it looks at two new ones.
 */
final class Twins {
    private static final int NOW = 0, BACK = 1, WAYS = 5;

    private Twins() {
    }

    /** Whether a call changes nothing that can be seen, but the findings. */
    static boolean stayAlike(Supplier<PaperWalls> scene, Consumer<PaperWalls> call) {
        for (int way = 0; way < WAYS; way++) {
            PaperWalls called = scene.get();
            call.accept(called);
            if (!looks(called, way).equals(looks(scene.get(), way))) {
                return false;
            }
        }
        return true;
    }

    /** All that digest() leaves out, too: who heard what then, and what a street was kept with. */
    private static List<Long> looks(PaperWalls x, int way) {
        List<Long> seen = new ArrayList<>();
        seen.add((long) x.asked());
        seen.add(x.digest());
        if (way == NOW) {
            hearing(x, seen);
            knowing(x, seen);
        } else if (way == BACK) {
            back(x, seen);
        } else {
            seen.add((long) x.on(way - BACK - 1));
            seen.add(x.digest());
            hearing(x, seen);
            knowing(x, seen);
            back(x, seen);
        }
        return seen;
    }

    private static void hearing(PaperWalls x, List<Long> seen) {
        seen.add(x.upper());
        seen.add(x.lower());
        for (int one = 0; one < 7; one++) {
            seen.add((long) x.heard(one, 0));
        }
        seen.add((long) x.safes());
        seen.add((long) x.asked());
        seen.add((long) x.turns());
        seen.add((long) x.asked());
    }

    private static void knowing(PaperWalls x, List<Long> seen) {
        for (int one = 0; one < 5; one++) {
            for (int other = 0; other < 5; other++) {
                seen.add((long) x.knowsThat(one, other, 0));
                seen.add((long) x.knowsThat(one, other, 7));
            }
        }
    }

    private static void back(PaperWalls x, List<Long> seen) {
        for (int n = x.count(3) - 1; n >= 0; n--) {
            seen.add((long) x.undo(n));
            seen.add(x.digest());
        }
    }
}
