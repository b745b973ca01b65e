/** Promises 12 to 19, and kinds and hearing among the terms: a test for each sentence that has an edge. */
public final class PeopleEdgesTest {
    private static final int BAD = PaperWalls.BAD;
    private static final int UNLIKE = 3;
    private static final Check CHECK = new Check("PeopleEdgesTest");

    public static void main(String[] args) {
        voices();
        perhapsBelowNone();
        noiseIsTheMost();
        noiseIsNoneAtLeast();
        aboveTheNoise();
        oneOrMore();
        aDeafOne();
        aListener();
        aListenerInNoise();
        whoSingsHearsNobody();
        setsByBits();
        person();
        markOfLoudOnes();
        markOfWhisperers();
        markOfDeafOnes();
        markOfSingers();
        markOfListeners();
        markAfterMoves();
        markRefused();
        wall();
        move();
        hears();
        heard();
        noise();
        hush();
        hushTheLeast();
        CHECK.end();
    }

    private static void voices() {
        CHECK.by(0, "One SPEAKS by 5; a LOUD one (SINGER, too) by 3 more, a WHISPERER (LISTENER, too) by 3 less."
            + " One SINGS as one SPEAKS, a SINGER by 2 more.");
        PaperWalls x = Streets.of("p1 o0 l0 w0 d0 s0 i0");
        int[] speaks = {5, 8, 2, 5, 8, 2};
        int[] sings = {5, 8, 2, 5, 10, 2};
        for (int one = 0; one < 6; one++) {
            CHECK.dueTold("speech of " + one, x, x.person(one, 2), 1, speaks[one]);
            CHECK.dueTold("song of " + one, x, x.person(one, 3), 1, sings[one]);
            CHECK.due("noise of " + one, x.noise(0, 1 << one), sings[one]);
            CHECK.due("noise of " + one + ", one room on", x.noise(1, 1 << one), sings[one] - 1);
            x.hears(one == 0 ? 1 : 0, one);
            CHECK.due("what comes of " + one, x.asked(), speaks[one]);
        }
    }

    private static void perhapsBelowNone() {
        CHECK.by(0, "In a ROOM it comes as so much less the LAYERS of all WALLS between (perhaps below 0).");
        PaperWalls x = Streets.of("p000000 o0 w6 l3");
        CHECK.dueTold("no layers", x, x.hears(0, 1), 1, 2);
        for (int i = 0; i < 6; i++) {
            x.wall(i, 20);
        }
        CHECK.dueTold("all walls", x, x.hears(0, 1), 0, -118);
        CHECK.dueTold("all walls, back", x, x.hears(1, 0), 0, -115);
        CHECK.dueTold("the first three walls", x, x.hears(0, 2), 0, -52);
        x.wall(3, 0);
        x.wall(5, 1);
        CHECK.dueTold("the first three walls, still", x, x.hears(0, 2), 0, -52);
        CHECK.dueTold("the last three walls", x, x.hears(1, 2), 0, -13);
    }

    private static void noiseIsTheMost() {
        CHECK.by(0, "NOISE in a ROOM is the most that comes of those who SING (0 at least).");
        PaperWalls x = Streets.of("p3 o0 o0 s1 w1 l1");
        CHECK.due("two alike", x.noise(0, 3), 5);
        CHECK.due("far, but more", x.noise(0, 5), 7);
        CHECK.due("near, but less", x.noise(1, 9), 2);
        CHECK.due("all", x.noise(0, 31), 7);
        CHECK.due("all, there", x.noise(1, 31), 10);
        CHECK.due("none", x.noise(0, 0), 0);
    }

    private static void noiseIsNoneAtLeast() {
        CHECK.by(0, "(0 at least)");
        PaperWalls x = Streets.of("p4 o0 w0");
        CHECK.due("5 less 4", x.noise(1, 1), 1);
        x.wall(0, 5);
        CHECK.due("5 less 5", x.noise(1, 1), 0);
        x.wall(0, 6);
        CHECK.due("5 less 6", x.noise(1, 1), 0);
        x.wall(0, 20);
        CHECK.due("both", x.noise(1, 3), 0);
    }

    private static void aboveTheNoise() {
        CHECK.by(0, "One HEARS another one who SPEAKS, if what comes is above the NOISE");
        PaperWalls x = Streets.of("p4 o0 o0 o1 l1");
        CHECK.due("5 above 4", x.heard(0, 8) & 2, 2);
        x.wall(0, 3);
        CHECK.due("5 above 5", x.heard(0, 8) & 2, 0);
        CHECK.due("5 above 2", x.heard(0, 4) & 2, 2);
        x.wall(0, 0);
        CHECK.due("5 above 5, in no walls", x.heard(0, 4) & 2, 0);
        CHECK.due("8 above 5", x.heard(3, 4) & 2, 2);
    }

    private static void dueHeard(String words, int heard) {
        PaperWalls x = Streets.of(words);
        CHECK.due("heard(0, 0) of " + words, x.heard(0, 0), heard);
        CHECK.due("hears(1, 0) of " + words, x.hears(1, 0), heard >> 1);
    }

    private static void oneOrMore() {
        CHECK.by(0, "and 1 or more;");
        String others = "olws";
        for (int i = 0; i < others.length(); i++) {
            char letter = others.charAt(i);
            dueHeard("p4 o0 " + letter + "1", 2);
            dueHeard("p5 o0 " + letter + "1", 0);
            dueHeard("p6 o0 " + letter + "1", 0);
            dueHeard("p2 w1 " + letter + "0", 0);
            dueHeard("p1 w1 " + letter + "0", 2);
            dueHeard("p44 s2 " + letter + "0", 0);
            dueHeard("p34 s2 " + letter + "0", 2);
        }
    }

    private static void aDeafOne() {
        CHECK.by(0, "a DEAF one 4 or more;");
        dueHeard("p0 o0 d1", 2);
        dueHeard("p1 o0 d1", 2);
        dueHeard("p2 o0 d1", 0);
        dueHeard("p4 l1 d0", 2);
        dueHeard("p5 l1 d0", 0);
        dueHeard("p0 w0 d0", 0);
        PaperWalls x = Streets.of("p3 l0 d0 l1 l0");
        CHECK.due("8 above 5", x.heard(0, 4) & 2, 2);
        CHECK.due("8 above 8", x.heard(0, 8) & 2, 0);
    }

    private static void aListener() {
        CHECK.by(0, "a LISTENER 0 or more");
        dueHeard("p4 o0 i1", 2);
        dueHeard("p5 o0 i1", 2);
        dueHeard("p6 o0 i1", 0);
        dueHeard("p9 o0 i1", 0);
        dueHeard("p44 l2 i0", 2);
        dueHeard("p45 l2 i0", 0);
    }

    private static void aListenerInNoise() {
        CHECK.by(0, "also if it is as much as the NOISE.");
        PaperWalls x = Streets.of("p0 o0 i0 w0 o0 l0");
        CHECK.due("5 and 2", x.heard(0, 4) & 2, 2);
        CHECK.due("5 and 5", x.heard(0, 8) & 2, 2);
        CHECK.due("5 and 8", x.heard(0, 16) & 2, 0);
        CHECK.due("2 and 5", x.heard(2, 8) & 2, 0);
        PaperWalls none = Streets.of("p5 o0 i1 w0 o0");
        CHECK.due("0 and a song below 0", none.heard(0, 4), 10);
        CHECK.due("0 and 0", none.heard(0, 8), 2);
        none.wall(0, 6);
        CHECK.due("-1 and a song below 0", none.heard(0, 12), 0);
    }

    private static void whoSingsHearsNobody() {
        CHECK.by(0, "Who SINGS HEARS nobody.");
        PaperWalls x = Streets.of("p9 s0 w0 i0 o0 d0 l0 s0");
        CHECK.due("nobody sings", x.heard(0, 0), 126);
        CHECK.due("a whisperer sings", x.heard(0, 2), 124);
        CHECK.due("a listener sings", x.heard(0, 4), 122);
        CHECK.due("one sings", x.heard(0, 8), 118);
        CHECK.due("a deaf one sings", x.heard(0, 16), 110);
        CHECK.due("all the others sing", x.heard(0, 126), 0);
        PaperWalls far = Streets.of("p9 o0 l1 o0");
        CHECK.due("who sings far off", far.heard(0, 2), 4);
        CHECK.due("who sings, and is not heard", Streets.of("p5 s0 w1").heard(0, 2), 0);
    }

    private static void setsByBits() {
        CHECK.by(0, "Sets (of PEOPLE, of TALKS) are told by bits.");
        PaperWalls x = Streets.of("p0 o0 o0 o0 o0 o0 o0 o0");
        for (int one = 0; one < 7; one++) {
            CHECK.due("all but " + one, x.heard(one, 0), 127 - (1 << one));
        }
        CHECK.due("all seven", x.noise(0, 127), 5);
        CHECK.due("an eighth bit", x.noise(0, 128), BAD);
        CHECK.due("an eighth bit, too", x.heard(0, 128), BAD);
        CHECK.due("the sign's bit", x.noise(0, Integer.MIN_VALUE), BAD);
        CHECK.due("bits below 0", x.noise(0, -1), BAD);
    }

    private static void person() {
        CHECK.by(12, "Of one: 0 the KIND, 1 the ROOM, 2 by how much that one SPEAKS, 3 SINGS,"
            + " 4 things that one KNOWS (bits), told by asked(): 1.");
        PaperWalls x = Streets.of("p123456 o0 w1 d2 s3 i4 l5 s6");
        int[] last = {4, 6, 8, 10, 0};
        for (int what = 0; what < 5; what++) {
            CHECK.dueTold("person(6, " + what + ")", x, x.person(6, what), 1, last[what]);
        }
        for (int thing = 0; thing < 8; thing++) {
            x.comes(6, thing);
        }
        CHECK.dueTold("all things", x, x.person(6, 4), 1, 255);
        CHECK.dueTold("no things", x, x.person(5, 4), 1, 0);
        CHECK.by(12, "BAD.");
        CHECK.due("person(7, 0)", x.person(7, 0), BAD);
        CHECK.due("person(-1, 0)", x.person(-1, 0), BAD);
        CHECK.due("person(0, 5)", x.person(0, 5), BAD);
        CHECK.due("person(0, -1)", x.person(0, -1), BAD);
        CHECK.due("nobody at first", new PaperWalls().person(0, 0), BAD);
    }

    private static void dueMark(String words, int kind, int want) {
        CHECK.due("mark(0, " + kind + ") of " + words, Streets.of(words).mark(0, kind), want);
    }

    private static void markOfLoudOnes() {
        CHECK.by(13, "a LOUD one (SINGER, too) how many others HEAR that one");
        dueMark("p0 l0", 1, 0);
        dueMark("p0 s0", 1, 0);
        dueMark("p0 l0 o0 w0 d0 i0 s0 l1", 1, 6);
        dueMark("p8 l0 o1 w1 i1 d1", 1, 1);
        dueMark("p7 l0 o1 w1 i1 d1", 1, 3);
        dueMark("p4 s0 o1 w1 i1 d1", 1, 4);
        dueMark("p9 s0 o1 i1", 1, 0);
    }

    private static void markOfWhisperers() {
        CHECK.by(13, "a WHISPERER (LISTENER, too) how many others are in the same ROOM");
        dueMark("p0 w0", 2, 0);
        dueMark("p0 i1 o0", 2, 0);
        dueMark("p0 w1 o1 o0 o1 l1 s1 i1", 2, 5);
        dueMark("p0 i0 i0 i0 i0 i0 i0 i0", 2, 6);
    }

    private static void markOfDeafOnes() {
        CHECK.by(13, "a DEAF one how many others that one HEARS");
        dueMark("p0 d0", 3, 0);
        dueMark("p1 d0 o1 l1 w0", 3, 2);
        dueMark("p4 d0 o1 l1 s1 o0", 3, 3);
        dueMark("p5 d0 o1 l1 s1 w0", 3, 0);
        dueMark("p0 d0 o0 o0 d1 l1 s1 o0", 3, 6);
    }

    private static void markOfSingers() {
        CHECK.by(13, "a SINGER how much NOISE that one, SINGING, makes in ROOM 0");
        dueMark("p9 s0", 4, 10);
        dueMark("p9 s1", 4, 1);
        dueMark("p91 s2", 4, 0);
        dueMark("p99 s2", 4, 0);
        dueMark("p99 s0 s0", 4, 10);
    }

    private static void markOfListeners() {
        CHECK.by(13, "a LISTENER how many others that one HEARS that a ONE of KIND 0 there would not.");
        dueMark("p0 i0", 5, 0);
        dueMark("p4 i0 o1 d1", 5, 0);
        dueMark("p5 i0 o1 d1 o0 l1", 5, 2);
        dueMark("p6 i0 o1", 5, 0);
        dueMark("p2 i0 w1 i1 w1 w1 w1 w1", 5, 6);
    }

    private static void markAfterMoves() {
        CHECK.by(13, "What one who IS of a KIND tells");
        PaperWalls x = Streets.of("p9 s0 w0 d0 i0 o0");
        x.move(0, 1);
        x.wall(0, 8);
        CHECK.due("a loud one, to a listener alone", x.mark(0, 1), 1);
        CHECK.due("a singer, by 10 less 8", x.mark(0, 4), 2);
        CHECK.due("a whisperer, with three", x.mark(1, 2), 3);
        CHECK.due("a deaf one, of one", x.mark(2, 3), 1);
        CHECK.due("a listener, of one more", x.mark(3, 5), 1);
        x.move(4, 1);
        CHECK.due("a whisperer, with two", x.mark(1, 2), 2);
        CHECK.due("a deaf one, of none", x.mark(2, 3), 0);
        CHECK.due("a loud one, to two", x.mark(0, 1), 2);
    }

    private static void markRefused() {
        CHECK.by(13, "What one who IS of a KIND tells");
        PaperWalls x = Streets.of("p9 o0 l0 w0 d0 s0 i0");
        CHECK.due("a loud one", x.mark(1, 1), 5);
        CHECK.due("a singer is a loud one", x.mark(4, 1), 5);
        CHECK.due("a listener is a whisperer", x.mark(5, 2), 5);
        CHECK.by(13, "UNLIKE.");
        CHECK.dueFinding("a loud one is no singer", x, x.mark(1, 4), UNLIKE);
        CHECK.dueFinding("a whisperer is no listener", x, x.mark(2, 5), UNLIKE);
        CHECK.dueFinding("a deaf one is not loud", x, x.mark(3, 1), UNLIKE);
        CHECK.dueFinding("one of kind 0 is not deaf", x, x.mark(0, 3), UNLIKE);
        CHECK.by(13, "BAD: also KIND 0;");
        for (int one = 0; one < 6; one++) {
            CHECK.due("all are of kind 0", x.mark(one, 0), BAD);
        }
        CHECK.due("kind 6", x.mark(0, 6), BAD);
        CHECK.due("kind -1", x.mark(0, -1), BAD);
        CHECK.due("nobody", x.mark(6, 1), BAD);
        CHECK.due("nobody, too", x.mark(-1, 1), BAD);
    }

    private static void wall() {
        CHECK.by(14, "A WALL has v (0 .. 20) LAYERS: what it had.");
        PaperWalls x = Streets.of("p123456 o0 o6");
        CHECK.due("the first, 0", x.wall(0, 0), 1);
        CHECK.due("the first, 20", x.wall(0, 20), 0);
        CHECK.due("the first, 20 again", x.wall(0, 20), 20);
        CHECK.due("the last, 20", x.wall(5, 20), 6);
        CHECK.due("the last, 0", x.wall(5, 0), 20);
        CHECK.dueTold("20 and 2 to 5", x, x.hears(0, 1), 0, -29);
        CHECK.by(14, "BAD.");
        CHECK.due("21 layers", x.wall(0, 21), BAD);
        CHECK.due("-1 layers", x.wall(0, -1), BAD);
        CHECK.due("a seventh wall", x.wall(6, 1), BAD);
        CHECK.due("a wall below", x.wall(-1, 1), BAD);
        CHECK.due("no walls", new PaperWalls().wall(0, 1), BAD);
        CHECK.dueTold("as it was", x, x.hears(1, 0), 0, -29);
    }

    private static void move() {
        CHECK.by(15, "One goes to a ROOM: where that one was.");
        PaperWalls x = Streets.of("p123456 o0 o0 o0 o0 o0 o0 o3");
        CHECK.due("to the last", x.move(6, 6), 3);
        CHECK.due("to the first", x.move(6, 0), 6);
        CHECK.due("to the same", x.move(6, 0), 0);
        CHECK.dueTold("there", x, x.person(6, 1), 1, 0);
        CHECK.by(15, "BAD.");
        CHECK.due("an eighth room", x.move(0, 7), BAD);
        CHECK.due("a room below", x.move(0, -1), BAD);
        CHECK.due("an eighth one", x.move(7, 0), BAD);
        CHECK.due("one below", x.move(-1, 0), BAD);
        CHECK.dueTold("where it was", x, x.person(0, 1), 1, 0);
    }

    private static void hears() {
        CHECK.by(16, "What comes to one of what another one SPEAKS, told by asked(): 1,"
            + " if it is HEARD (nobody SINGING), else 0.");
        PaperWalls x = Streets.of("p5 o0 o1 i1 d0 l0 w1 o0");
        CHECK.dueTold("0 is not", x, x.hears(1, 0), 0, 0);
        CHECK.dueTold("0 is, for a listener", x, x.hears(2, 0), 1, 0);
        CHECK.dueTold("-3 is not", x, x.hears(3, 5), 0, -3);
        CHECK.dueTold("8 is", x, x.hears(3, 4), 1, 8);
        CHECK.dueTold("one by a singer's speech alone", x, x.hears(6, 0), 1, 5);
        CHECK.by(16, "BAD: also oneself.");
        for (int one = 0; one < 7; one++) {
            CHECK.due("oneself", x.hears(one, one), BAD);
        }
        CHECK.due("hears(7, 0)", x.hears(7, 0), BAD);
        CHECK.due("hears(0, 7)", x.hears(0, 7), BAD);
        CHECK.due("hears(-1, 0)", x.hears(-1, 0), BAD);
        CHECK.due("hears(0, -1)", x.hears(0, -1), BAD);
        CHECK.due("hears(7, 7)", x.hears(7, 7), BAD);
    }

    private static void heard() {
        CHECK.by(17, "Who HEARS one, a set SINGING (bits).");
        CHECK.due("alone", Streets.of("p1 l0").heard(0, 0), 0);
        PaperWalls x = Streets.of("p0 o0 w0 w0 w0 w0 w0 o1");
        CHECK.due("all the others", x.heard(0, 0), 126);
        CHECK.due("all but one sing", x.heard(0, 62), 64);
        CHECK.due("all sing", x.heard(0, 126), 0);
        CHECK.due("the last of all", x.heard(6, 0), 63);
        CHECK.by(17, "BAD: also that one SINGS.");
        CHECK.due("that one alone", x.heard(0, 1), BAD);
        CHECK.due("that one and all", x.heard(6, 127), BAD);
        CHECK.due("that one and nobody's bits", x.heard(6, 255), BAD);
        CHECK.due("nobody's bits", x.heard(6, 128), BAD);
        CHECK.due("heard(7, 0)", x.heard(7, 0), BAD);
        CHECK.due("heard(-1, 0)", x.heard(-1, 0), BAD);
    }

    private static void noise() {
        CHECK.by(18, "NOISE in a ROOM, a set SINGING.");
        PaperWalls x = Streets.of("p111111 s6 o0");
        CHECK.due("the first room", x.noise(0, 1), 4);
        CHECK.due("the last room", x.noise(6, 1), 10);
        CHECK.due("nobody sings", x.noise(6, 0), 0);
        CHECK.by(18, "BAD (also without WALLS).");
        CHECK.due("an eighth room", x.noise(7, 1), BAD);
        CHECK.due("a room below", x.noise(-1, 1), BAD);
        CHECK.due("nobody's bits", x.noise(0, 4), BAD);
        CHECK.due("no walls, the first room", new PaperWalls().noise(0, 0), BAD);
        CHECK.due("no walls, another room", new PaperWalls().noise(1, 0), BAD);
        CHECK.due("walls without people", Streets.of("p1").noise(0, 0), 0);
    }

    private static void dueHush(String words, int x, int fewest, int who) {
        PaperWalls walls = Streets.of(words);
        walls.person(x, 2);
        CHECK.dueTold("hush(" + x + ") of " + words, walls, walls.hush(x), fewest, who);
    }

    private static void hush() {
        CHECK.by(19, "The fewest others who have to SING so that nobody HEARS one");
        dueHush("p1 o0", 0, 0, 0);
        dueHush("p5 o0 o1 d1", 0, 0, 0);
        dueHush("p4 o0 o1 d1", 0, 1, 2);
        dueHush("p0 l0 o0 o0 o0 o0 o0 o0", 0, 6, 126);
        dueHush("p0 l0 o0 o0 o0 o0 o0 s0", 0, 1, 64);
        dueHush("p1 w1 o0 o0", 0, 1, 2);
        CHECK.by(19, "BAD.");
        PaperWalls x = Streets.of("p0 o0 o0 o0 o0 o0 o0 o0");
        CHECK.due("hush(7)", x.hush(7), BAD);
        CHECK.due("hush(-1)", x.hush(-1), BAD);
        CHECK.dueTold("hush(6)", x, x.hush(6), 1, 1);
    }

    private static void hushTheLeast() {
        CHECK.by(19, "who (bits; the least) by asked(). NONE: never.");
        dueHush("p0 o0 o0 o0 o0", 0, 1, 2);
        dueHush("p0 o0 w0 o0 o0", 0, 1, 4);
        dueHush("p0 w0 i0 o0", 0, 1, 2);
        dueHush("p0 o0 i0 o0 o0", 0, 2, 6);
        dueHush("p0 o0 i0 i0 l0", 0, 1, 8);
        dueHush("p33 o1 o0 o2 w1", 0, 3, 14);
    }
}
