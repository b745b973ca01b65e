import java.lang.reflect.Constructor;
import java.lang.reflect.Field;
import java.lang.reflect.Member;
import java.lang.reflect.Method;
import java.lang.reflect.Modifier;
import java.util.ArrayList;
import java.util.Collections;
import java.util.List;

/** The public face: what the document prints, and nothing more. */
public final class FaceTest {
    private static final Check CHECK = new Check("FaceTest");

    private static final String[] CONSTANTS = {
        "BAD -1", "FULL -2", "FINDING -3", "STATE -4", "SPENT -6", "NONE -9",
    };

    /** Name, answer (I int, J long), how many ints it takes. */
    private static final String[] METHODS = {
        "row I2", "lay I3", "at I2", "tear I1", "copy I5", "mean I1", "text I2", "put I3", "fault I1", "street I1",
        "person I2", "mark I2", "wall I2", "move I2", "hears I2", "heard I2", "noise I2", "hush I1", "talk I3",
        "off I1", "about I2", "safe I2", "cover I1", "beside I1", "turns I0", "most I0", "safes I0", "rooms I1",
        "swap I0", "paste I2", "tearOff I2", "rent I1", "comes I2", "tell I2", "undo I1", "know I1",
        "knowsThat I3", "spread I2", "leak I1", "leaks I1", "keep I1", "on I1", "nights I3", "asked I0",
        "upper J0", "lower J0", "count I1", "finding I0", "findings I1", "digest J0",
    };

    public static void main(String[] args) throws IllegalAccessException {
        constants();
        methods();
        classes();
        CHECK.end();
    }

    private static boolean isSeen(Member member) {
        return !Modifier.isPrivate(member.getModifiers()) && !member.isSynthetic();
    }

    private static void dueSame(String what, List<String> got, String[] due) {
        List<String> want = new ArrayList<>(List.of(due));
        Collections.sort(got);
        Collections.sort(want);
        CHECK.due(what + " " + got + " against " + want, got.equals(want) ? 1 : 0, 1);
    }

    private static void constants() throws IllegalAccessException {
        List<String> got = new ArrayList<>();
        for (Field field : PaperWalls.class.getDeclaredFields()) {
            if (isSeen(field)) {
                CHECK.due(field.getName() + " is", field.getModifiers(),
                    Modifier.PUBLIC | Modifier.STATIC | Modifier.FINAL);
                got.add(field.getName() + " " + field.getInt(null));
            }
        }
        dueSame("constants", got, CONSTANTS);
    }

    private static void methods() {
        List<String> got = new ArrayList<>();
        List<String> names = new ArrayList<>();
        for (Method method : PaperWalls.class.getDeclaredMethods()) {
            if (isSeen(method)) {
                CHECK.due(method.getName() + " is", method.getModifiers(), Modifier.PUBLIC);
                String answer = method.getReturnType() == long.class ? "J" : "I";
                got.add(method.getName() + " " + answer + method.getParameterCount());
                names.add(method.getName());
            }
        }
        dueSame("methods", got, METHODS);
        for (Method method : PaperWalls.class.getDeclaredMethods()) {
            boolean isHidden = !isSeen(method) && names.contains(method.getName());
            CHECK.due("a private method bears the name of " + method.getName(), isHidden ? 1 : 0, 0);
        }
        Constructor<?>[] all = PaperWalls.class.getDeclaredConstructors();
        CHECK.due("constructors", all.length, 1);
        CHECK.due("the constructor is", all[0].getModifiers(), Modifier.PUBLIC);
    }

    private static void classes() {
        CHECK.due("the class is", PaperWalls.class.getModifiers(), Modifier.PUBLIC | Modifier.FINAL);
        Class<?>[] inside = PaperWalls.class.getDeclaredClasses();
        CHECK.due("too many classes", inside.length > 11 ? 1 : 0, 0);
        for (Class<?> one : inside) {
            int modifiers = one.getModifiers();
            CHECK.due(one + " is static", Modifier.isStatic(modifiers) ? 1 : 0, 1);
            CHECK.due(one + " is public", Modifier.isPublic(modifiers) || Modifier.isProtected(modifiers) ? 1 : 0, 0);
        }
    }
}
