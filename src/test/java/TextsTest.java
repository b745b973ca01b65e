/** Promises 8 to 11: texts, faults, streets. */
public final class TextsTest {
    private static final int BAD = PaperWalls.BAD, NONE = PaperWalls.NONE, STATE = PaperWalls.STATE;
    private static final int NOTHING = 1, BEYOND = 2, SIZE = 5;
    private static final Check CHECK = new Check("TextsTest");

    public static void main(String[] args) {
        text();
        put();
        noFaults();
        faultsInWalls();
        faultsInPeople();
        faultRefused();
        street();
        streetAnew();
        streetRefused();
        CHECK.end();
    }

    private static void text() {
        PaperWalls x = new PaperWalls();
        CHECK.due("text(0, 2)", x.text(0, 2), 2);
        CHECK.due("a blank", x.put(0, 1, 65), 1032);
        CHECK.due("text(3, 80)", x.text(3, 80), 80);
        CHECK.due("the last blank", x.put(3, 79, 65), 1032);
        CHECK.due("text(1, 0)", x.text(1, 0), 0);
        CHECK.due("count(7)", x.count(7), 3);
        CHECK.due("text(0, 81)", x.text(0, 81), BAD);
        CHECK.due("text(4, 1)", x.text(4, 1), BAD);
        CHECK.due("text(-1, 1)", x.text(-1, 1), BAD);
        CHECK.due("text(4, -1)", x.text(4, -1), BAD);
        CHECK.dueFinding("text(0, -1)", x, x.text(0, -1), SIZE);
        CHECK.due("stays", x.put(0, 1, 66), 1065);
        CHECK.due("text anew", x.text(0, 2), 2);
        CHECK.due("a blank anew", x.put(0, 1, 66), 1032);
    }

    private static void put() {
        PaperWalls x = new PaperWalls();
        x.text(0, 3);
        CHECK.due("put 127", x.put(0, 0, 127), 1032);
        CHECK.due("put 128", x.put(0, 0, 128), 1127);
        CHECK.due("put -1", x.put(0, 0, -1), 872);
        CHECK.due("put 511", x.put(0, 0, 511), 999);
        CHECK.due("put 256", x.put(0, 0, 256), 999);
        CHECK.due("put nought", x.put(0, 0, 0), 1000);
        CHECK.due("put the last", x.put(0, 2, 5), 1032);
        CHECK.dueFinding("put beyond", x, x.put(0, 3, 0), BEYOND);
        CHECK.dueFinding("put ahead", x, x.put(0, -1, 0), BEYOND);
        CHECK.dueFinding("put nowhere", x, x.put(1, -1, 0), NOTHING);
        CHECK.due("put(4, ..)", x.put(4, 0, 0), BAD);
        CHECK.due("put(-1, ..)", x.put(-1, 0, 0), BAD);
        CHECK.due("asked() stays", x.asked(), 0);
    }

    private static void dueFault(String words, int want) {
        PaperWalls x = new PaperWalls();
        Streets.write(x, 2, words);
        CHECK.due("fault of '" + words + "'", x.fault(2), want);
        CHECK.due("street of '" + words + "'", x.street(2) >= 0 ? NONE : STATE, want == NONE ? NONE : STATE);
    }

    private static void noFaults() {
        dueFault("p2", NONE);
        dueFault("   p2", NONE);
        dueFault("p2   ", NONE);
        dueFault("p123456", NONE);
        dueFault("p909090 o6", NONE);
        dueFault("p1 o0 l1 w0 d1 s0 i1", NONE);
        dueFault("  p1    o0   l1  ", NONE);
        dueFault("p1o0l1", NONE);
        dueFault("p1 o0 o0 o0 o0 o0 o0 o0", NONE);
        dueFault("p1 o0 o0 o0 o0 o0 o0 o0  ", NONE);
        dueFault(" ".repeat(78) + "p1", NONE);
    }

    private static void faultsInWalls() {
        dueFault("", 0);
        dueFault("   ", 3);
        dueFault("q2", 0);
        dueFault("P2", 0);
        dueFault("2", 0);
        dueFault("  x", 2);
        dueFault("o0", 0);
        dueFault("p", 1);
        dueFault("  p", 3);
        dueFault("p ", 1);
        dueFault("p 1", 1);
        dueFault("p-1", 1);
        dueFault("po0", 1);
        dueFault("p/", 1);
        dueFault("p:", 1);
        dueFault("p1234567", 7);
        dueFault("p123456 7", 8);
        dueFault("p1 2", 3);
        dueFault("\0p1", 0);
        dueFault((char) 240 + "1", 0);
    }

    private static void faultsInPeople() {
        dueFault("p1x", 2);
        dueFault("p1 x0", 3);
        dueFault("p1 p1", 3);
        dueFault("p1 O0", 3);
        dueFault("p1 o", 4);
        dueFault("p1 o ", 4);
        dueFault("p1 o 0", 4);
        dueFault("p1 o2", 4);
        dueFault("p12 o3", 5);
        dueFault("p12 o2 l3", 8);
        dueFault("p1 oo", 4);
        dueFault("p1 o/", 4);
        dueFault("p1 o00", 5);
        dueFault("p1 o0 0", 6);
        dueFault("p1 o0 o0 o0 o0 o0 o0 o0 o0", 24);
        dueFault("p1 o0 o0 o0 o0 o0 o0 o0   x", 26);
        dueFault("p1 o0 o0 o0 o0 o0 o0 o0o", 23);
        dueFault("p1 o0 o0 o0 o0 o0 o0 o0 o9", 24);
        dueFault("p1 " + (char) 255 + "0", 3);
    }

    private static void faultRefused() {
        PaperWalls x = new PaperWalls();
        CHECK.due("fault(4)", x.fault(4), BAD);
        CHECK.due("fault(-1)", x.fault(-1), BAD);
        CHECK.dueFinding("fault of a missing one", x, x.fault(3), NOTHING);
        Streets.write(x, 0, "p1 o0");
        CHECK.due("fault(0)", x.fault(0), NONE);
        CHECK.due("no street by it", x.count(1), 0);
    }

    private static void street() {
        PaperWalls x = new PaperWalls();
        Streets.write(x, 1, " p905 i3 s0o1  ");
        CHECK.due("street(1)", x.street(1), 3);
        CHECK.due("count(0)", x.count(0), 3);
        CHECK.due("count(1)", x.count(1), 3);
        CHECK.dueTold("person(0, 0)", x, x.person(0, 0), 1, 5);
        CHECK.dueTold("person(0, 1)", x, x.person(0, 1), 1, 3);
        CHECK.dueTold("person(1, 0)", x, x.person(1, 0), 1, 4);
        CHECK.dueTold("person(1, 1)", x, x.person(1, 1), 1, 0);
        CHECK.dueTold("person(2, 0)", x, x.person(2, 0), 1, 0);
        CHECK.dueTold("person(2, 1)", x, x.person(2, 1), 1, 1);
        CHECK.due("wall(0, ..)", x.wall(0, 0), 9);
        CHECK.due("wall(1, ..)", x.wall(1, 0), 0);
        CHECK.due("wall(2, ..)", x.wall(2, 0), 5);
        Streets.write(x, 0, "p123456");
        CHECK.due("street without people", x.street(0), 0);
        CHECK.due("six walls", x.count(1), 6);
        CHECK.due("a seventh room", x.rent(6), 20);
        CHECK.due("nobody", x.person(0, 0), BAD);
    }

    private static void streetAnew() {
        PaperWalls x = Streets.fiveWithTalks();
        x.comes(0, 0);
        x.tell(0, 0);
        x.keep(0);
        x.keep(2);
        x.wall(0, 1);
        x.move(0, 2);
        int told = x.asked();
        CHECK.due("street anew", x.street(0), 5);
        CHECK.due("asked() stays", x.asked(), told);
        CHECK.due("no talks", x.count(2), 0);
        CHECK.due("no hours", x.count(3), 0);
        CHECK.due("kept ones go", x.count(8), 0);
        CHECK.dueFinding("on(0)", x, x.on(0), NOTHING);
        CHECK.due("nobody knows", x.know(0), 0);
        CHECK.due("wall as written", x.wall(0, 5), 5);
        CHECK.due("room as written", x.move(0, 0), 0);
        CHECK.due("text stays", x.fault(0), NONE);
        x.comes(0, 0);
        x.tell(0, 0);
        CHECK.due("tried on a street with hours", x.swap(), NONE);
        x.street(0);
        CHECK.due("no hours, still", x.count(3), 0);
        CHECK.due("nobody knows, still", x.know(0), 0);
    }

    private static void streetRefused() {
        PaperWalls x = Streets.fiveWithTalks();
        x.keep(1);
        CHECK.due("street(4)", x.street(4), BAD);
        CHECK.due("street(-1)", x.street(-1), BAD);
        CHECK.dueFinding("street of a missing one", x, x.street(3), NOTHING);
        Streets.write(x, 1, "p123 o0 o9");
        long digest = x.digest();
        CHECK.due("street with a fault", x.street(1), STATE);
        CHECK.due("all stays", x.digest(), digest);
        CHECK.due("talks stay safe", x.safes(), 2);
    }
}
