/** Promises 42 to 44, and lots among the terms: a test for each sentence that has an edge. */
public final class KeptEdgesTest {
    private static final int BAD = PaperWalls.BAD, NONE = PaperWalls.NONE, STATE = PaperWalls.STATE;
    private static final int NOTHING = 1, BEYOND = 2;
    private static final Check CHECK = new Check("KeptEdgesTest");

    /** Lots modulo 5, by their seeds; 44489 is the first by which an int would wrap around at once. */
    private static final int[] SEEDS = {1, 2, 44488, 44489, 1234567890, 2147483645, 2147483646};
    private static final String[] LOTS = {
        "141213101112243444302002230002322412112022222313102104404312",
        "230201002022214111434032240334444122002024224421234231103102",
        "334443331421203244012231221041242011221031231024431404201301",
        "203134432331441111144211231023344201113033203132313031400141",
        "031443332433023330404300334431313104121100320410030424331034",
        "042021220200013111343240032443333100220203003301043041124120",
        "131014121110034333420220042220400310110200000414120123323410",
    };
    /** Lots modulo 7 by seed 1. */
    private static final String OF_SEVEN = "605410064422355461021102630222241645151553665042532564606013";

    public static void main(String[] args) {
        keep();
        keepAgain();
        keepAll();
        keepRefused();
        on();
        onFull();
        onRefused();
        lots();
        lotsOfSeven();
        lotsOfTwo();
        nights();
        nightsNone();
        nightsRefused();
        CHECK.end();
    }

    private static void keep() {
        CHECK.by(42, "is kept in a place (0 .. 2): how many HOURS.");
        PaperWalls x = Streets.of("p1 o0");
        CHECK.due("the first place", x.keep(0), 0);
        CHECK.due("the last place", x.keep(2), 0);
        CHECK.due("two kept", x.count(8), 2);
        x.comes(0, 0);
        x.tell(0, 0);
        CHECK.due("the place between", x.keep(1), 1);
        CHECK.due("three kept", x.count(8), 3);
        CHECK.due("40 hours", Scenes.full().keep(1), 40);
    }

    private static void keepAgain() {
        CHECK.by(42, "The STREET (ROOMS, LAYERS, TALKS, what is KNOWN, HOURS) is kept");
        PaperWalls x = Streets.of("p1 o0 o0");
        x.keep(1);
        x.comes(0, 0);
        x.tell(0, 0);
        CHECK.due("over the other one", x.keep(1), 1);
        CHECK.due("one kept", x.count(8), 1);
        x.undo(0);
        CHECK.due("the later one", x.on(1), 1);
        CHECK.due("an hour", x.count(3), 1);
    }

    private static void keepAll() {
        CHECK.by(42, "(ROOMS, LAYERS, TALKS, what is KNOWN, HOURS)");
        PaperWalls x = Scenes.full();
        x.wall(1, 20);
        x.move(4, 0);
        x.keep(2);
        long all = x.digest();
        x.wall(1, 0);
        x.move(4, 1);
        x.off(0);
        x.talk(1, 0, 0);
        x.undo(0);
        x.comes(4, 4);
        x.tell(4, 4);
        CHECK.due("on(2)", x.on(2), 40);
        CHECK.due("all as it was", x.digest(), all);
        CHECK.dueTold("rooms", x, x.person(4, 1), 1, 0);
        CHECK.due("layers", x.wall(1, 20), 20);
        CHECK.due("talks", x.count(2), 8);
        CHECK.dueTold("the last talk", x, x.about(7, 0), 1, 2);
        CHECK.due("what is known", x.know(4), 0);
        CHECK.due("what is known, too", x.know(7), 28);
        CHECK.due("hours", x.count(3), 40);
        CHECK.due("the 40th undone", x.undo(39), 1);
    }

    private static void keepRefused() {
        CHECK.by(42, "BAD; STATE: no PEOPLE.");
        PaperWalls x = Streets.of("p1");
        CHECK.due("walls alone", x.keep(0), STATE);
        CHECK.due("no street", new PaperWalls().keep(2), STATE);
        CHECK.due("a place below", x.keep(-1), BAD);
        CHECK.due("a fourth place", x.keep(3), BAD);
        CHECK.due("none kept", x.count(8), 0);
    }

    private static void on() {
        CHECK.by(43, "The STREET is as it was kept: how many HOURS.");
        PaperWalls x = Streets.fiveWithTalks();
        x.keep(0);
        x.comes(0, 0);
        x.tell(0, 0);
        x.keep(1);
        x.tell(0, 0);
        x.keep(2);
        long two = x.digest();
        CHECK.due("on(0)", x.on(0), 0);
        CHECK.due("nobody knows", x.know(0), 0);
        CHECK.due("on(2)", x.on(2), 2);
        CHECK.due("all as it was", x.digest(), two);
        CHECK.due("on(1)", x.on(1), 1);
        CHECK.due("an hour more", x.tell(0, 0), 3);
        x.wall(0, 20);
        x.move(4, 0);
        x.off(0);
        CHECK.due("on(1) again", x.on(1), 1);
        CHECK.due("talks", x.count(2), 3);
        CHECK.due("layers", x.wall(0, 5), 5);
        CHECK.due("rooms", x.move(4, 2), 2);
        CHECK.due("what is known", x.know(0), 3);
        CHECK.due("still kept", x.count(8), 3);
        CHECK.due("rows and texts are not of it", x.row(0, 1), 1);
        x.on(0);
        CHECK.due("a row stays", x.count(6), 1);
        CHECK.due("a text stays", x.count(7), 1);
    }

    private static void onFull() {
        CHECK.by(43, "The STREET is as it was kept");
        PaperWalls x = Scenes.full();
        x.keep(0);
        x.off(0);
        x.undo(0);
        CHECK.due("on(0)", x.on(0), 40);
        CHECK.due("full of talks", x.talk(0, 1, 0), PaperWalls.FULL);
        CHECK.due("full of hours", x.tell(2, 0), PaperWalls.FULL);
        for (int n = 39; n > 0; n--) {
            x.undo(n);
        }
        CHECK.due("as ahead of the second", x.know(7), 8);
        CHECK.due("who heard it then", x.knowsThat(0, 2, 0), 1);
        x.undo(0);
        CHECK.due("as ahead of the first", x.know(0), 4);
        x.comes(0, 1);
        x.tell(0, 1);
        x.tell(0, 1);
        x.on(0);
        x.undo(1);
        CHECK.due("as ahead of the second, by what was kept", x.know(0), 31);
        CHECK.due("as ahead of the second, without what was not", x.know(1), 0);
    }

    private static void onRefused() {
        CHECK.by(43, "BAD; NOTHING.");
        PaperWalls x = Streets.of("p1 o0");
        x.keep(1);
        CHECK.dueFinding("none in the first", x, x.on(0), NOTHING);
        CHECK.dueFinding("none in the last", x, x.on(2), NOTHING);
        CHECK.due("a place below", x.on(-1), BAD);
        CHECK.due("a fourth place", x.on(3), BAD);
        CHECK.due("the one kept", x.on(1), 0);
        x.street(0);
        CHECK.dueFinding("the one kept is gone", x, x.on(1), NOTHING);
    }

    /** By FIVE's talk k just these criers leave it safe. */
    private static void dueNights(PaperWalls x, int k, int n, int seed, String lots, String safeBy) {
        int safe = 0;
        int last = NONE;
        for (int night = 0; night < n; night++) {
            if (safeBy.indexOf(lots.charAt(night)) >= 0) {
                safe++;
                last = lots.charAt(night) - '0';
            }
        }
        CHECK.dueTold("nights(" + k + ", " + n + ", " + seed + ")", x, x.nights(k, n, seed), safe, last);
    }

    private static void lots() {
        CHECK.by(0, "LOTS: a number comes from the one ahead by 48271 times it modulo 2147483647,"
            + " the first from a seed (1 .. 2147483646).");
        for (int i = 0; i < SEEDS.length; i++) {
            PaperWalls x = Streets.fiveWithTalks();
            for (int n = 1; n <= 60; n++) {
                dueNights(x, 0, n, SEEDS[i], LOTS[i], "34");
                dueNights(x, 1, n, SEEDS[i], LOTS[i], "0");
                dueNights(x, 2, n, SEEDS[i], LOTS[i], "012");
            }
        }
    }

    private static void lotsOfSeven() {
        CHECK.by(44, "modulo how many PEOPLE who cries (SINGS)");
        PaperWalls x = Streets.of("p9 o0 o0 w1 l1 o1 o1 o1");
        x.talk(0, 1, 0);
        x.talk(3, 4, 32);
        for (int n = 1; n <= 60; n++) {
            dueNights(x, 0, n, 1, OF_SEVEN, "23456");
            dueNights(x, 1, n, 1, OF_SEVEN, "5");
        }
    }

    private static void lotsOfTwo() {
        CHECK.by(44, "modulo how many PEOPLE who cries");
        PaperWalls two = Streets.of("p9 o0 o0");
        two.talk(0, 1, 0);
        CHECK.dueTold("both are of the talk", two, two.nights(0, 60, 1), 0, NONE);
        PaperWalls three = Streets.of("p9 o0 o0 w1");
        three.talk(0, 1, 0);
        CHECK.dueTold("48271 modulo three", three, three.nights(0, 1, 1), 0, NONE);
        CHECK.dueTold("and 182605794 modulo three", three, three.nights(0, 2, 1), 0, NONE);
        CHECK.dueTold("and 1291394886, 1914720637, 2078669041", three, three.nights(0, 5, 1), 0, NONE);
        CHECK.dueTold("2 times 48271 modulo three", three, three.nights(0, 1, 2), 1, 2);
    }

    private static void nights() {
        CHECK.by(44, "Nights by LOTS of a seed: n (1 .. 60) times a number");
        PaperWalls x = Streets.fiveWithTalks();
        CHECK.dueTold("one night", x, x.nights(2, 1, 1), 1, 1);
        CHECK.dueTold("60 nights", x, x.nights(2, 60, 1), 43, 2);
        CHECK.dueTold("seed 2147483646", x, x.nights(2, 60, 2147483646), 43, 0);
        CHECK.dueTold("59 nights of it", x, x.nights(2, 59, 2147483646), 42, 1);
        long all = x.digest();
        CHECK.dueTold("the same again", x, x.nights(2, 60, 1), 43, 2);
        CHECK.due("nothing is changed", x.digest(), all);
    }

    private static void nightsNone() {
        CHECK.by(44, "in how many nights TALK k is SAFE by it; the number of who cried in the last such"
            + " night (NONE) by asked().");
        PaperWalls x = Streets.fiveWithTalks();
        x.person(0, 2);
        CHECK.dueTold("in no night", x, x.nights(1, 1, 1), 0, NONE);
        CHECK.dueTold("the last such night, not the last", x, x.nights(0, 2, 1), 1, 4);
        CHECK.dueTold("nor the third", x, x.nights(0, 3, 1), 1, 4);
        PaperWalls never = Scenes.apart();
        CHECK.dueTold("never", never, never.nights(0, 60, 77), 0, NONE);
        PaperWalls full = Scenes.full();
        CHECK.dueTold("the eighth, by who must not hear alone", full, full.nights(7, 60, 1), 11, 0);
    }

    private static void nightsRefused() {
        CHECK.by(44, "BAD; BEYOND.");
        PaperWalls x = Streets.fiveWithTalks();
        CHECK.due("no night", x.nights(0, 0, 1), BAD);
        CHECK.due("-1 nights", x.nights(0, -1, 1), BAD);
        CHECK.due("61 nights", x.nights(0, 61, 1), BAD);
        CHECK.due("seed 0", x.nights(0, 60, 0), BAD);
        CHECK.due("seed -1", x.nights(0, 60, -1), BAD);
        CHECK.due("the least seed", x.nights(0, 60, Integer.MIN_VALUE), BAD);
        CHECK.due("seed 2147483647", x.nights(0, 60, 2147483647), BAD);
        CHECK.dueFinding("a fourth talk", x, x.nights(3, 60, 1), BEYOND);
        CHECK.due("a fourth talk in no night", x.nights(3, 0, 1), BAD);
        PaperWalls fresh = new PaperWalls();
        CHECK.dueFinding("no street", fresh, fresh.nights(0, 1, 1), BEYOND);
    }
}
