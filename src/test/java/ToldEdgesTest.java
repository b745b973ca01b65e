/** Promises 45 to 51, and answers and findings among the terms: a test for each sentence that has an edge. */
public final class ToldEdgesTest {
    private static final int BAD = PaperWalls.BAD, NONE = PaperWalls.NONE;
    private static final int NOTHING = 1, BEYOND = 2, UNLIKE = 3, NOUGHT = 4, SIZE = 5;
    private static final Check CHECK = new Check("ToldEdgesTest");

    public static void main(String[] args) {
        onlyTells();
        lastOfAllCalls();
        askedBeforeAny();
        askedOfRefused();
        askedOfNone();
        askedAsTold();
        askedOfOthers();
        fewerThanTwo();
        lowestTerms();
        counts();
        countsOfKinds();
        countsOfWhatIsThere();
        countRefused();
        findingBeforeAny();
        findingsOneByOne();
        findingsOfOtherRefusals();
        digestOfNothing();
        digestBySigns();
        digestOfEachPart();
        digestOfFull();
        digestAsksNothing();
        CHECK.end();
    }

    private static void lastOfAllCalls() {
        CHECK.by(0, "An object is used for at most 512 calls after it has been made");
        PaperWalls x = new PaperWalls();
        for (int n = 0; n < 509; n++) {
            x.at(5, n);
        }
        CHECK.due("the 510th call", x.findings(NOTHING), 509);
        CHECK.due("the 511th call", x.finding(), NOTHING);
        CHECK.due("the 512th call", x.row(5, 40), 40);
    }

    private static void askedBeforeAny() {
        CHECK.by(45, "0 before.");
        PaperWalls x = new PaperWalls();
        CHECK.due("asked() before any", x.asked(), 0);
        x.at(0, 0);
        x.row(0, 1);
        x.hears(0, 1);
        CHECK.due("asked() before any that is told", x.asked(), 0);
        Streets.write(x, 0, "p1 l1 o0");
        x.street(0);
        CHECK.due("asked() before any but a street", x.asked(), 0);
        x.person(0, 2);
        CHECK.due("asked()", x.asked(), 8);
        x.street(0);
        CHECK.due("a street anew leaves it", x.asked(), 8);
    }

    private static void askedOfRefused() {
        CHECK.by(45, "that was not refused (nor NONE, but as told) told;");
        PaperWalls x = Scenes.rich();
        x.person(2, 3);
        x.lay(6, 0, 1);
        x.lay(2, 0, 1);
        x.lay(0, 3, 1);
        x.at(6, 0);
        x.at(2, 0);
        x.at(0, -1);
        x.mean(6);
        x.mean(2);
        x.mean(1);
        x.person(5, 0);
        x.person(0, 5);
        x.hears(0, 0);
        x.hears(5, 0);
        x.hush(5);
        x.about(-1, 0);
        x.about(3, 0);
        x.safe(0, 32);
        x.safe(3, 0);
        x.cover(-1);
        x.cover(3);
        x.tearOff(1, 1);
        x.tearOff(5, 1);
        x.nights(0, 0, 1);
        x.nights(3, 1, 1);
        CHECK.due("asked()", x.asked(), 10);
    }

    private static void askedOfNone() {
        CHECK.by(45, "(nor NONE, but as told)");
        PaperWalls x = Scenes.apart();
        CHECK.dueTold("cover", x, x.cover(0), NONE, 2);
        CHECK.dueTold("turns", x, x.turns(), NONE, 2);
        CHECK.dueTold("swap", x, x.swap(), NONE, 2);
        CHECK.dueTold("tearOff", x, x.tearOff(0, 1), NONE, 2);
        CHECK.due("paste", x.paste(0, 0), NONE);
        CHECK.due("asked()", x.asked(), 2);
        CHECK.due("fault", x.fault(0), NONE);
        CHECK.due("asked()", x.asked(), 2);
    }

    private static void askedAsTold() {
        CHECK.by(45, "but as told");
        PaperWalls x = Streets.of("p9 o0 o0");
        x.talk(0, 1, 0);
        x.person(0, 2);
        CHECK.dueTold("none has to be torn", x, x.tearOff(0, 1), 0, NONE);
        x.person(0, 2);
        CHECK.dueTold("in no night", x, x.nights(0, 9, 1), 0, NONE);
        x.person(0, 2);
        CHECK.dueTold("a call that answers 0 tells, too", x, x.safe(0, 1), 0, 0);
        x.person(0, 2);
        x.wall(0, 9);
        x.move(0, 1);
        CHECK.dueTold("not heard", x, x.hears(0, 1), 0, -4);
        CHECK.dueTold("no most", x, x.most(), 0, 0);
    }

    private static void askedOfOthers() {
        CHECK.by(45, "What the latest lay(), at(), mean(), person(), hears(), hush(), about(), safe(), cover(),"
            + " turns(), most(), safes(), swap(), tearOff(), nights()");
        PaperWalls x = Streets.fiveWithTalks();
        Streets.fill(x, 0, 7, -2);
        CHECK.dueTold("lay", x, x.lay(0, 1, 3), 1, -2);
        CHECK.dueTold("at", x, x.at(0, 1), 1, 3);
        CHECK.dueTold("mean", x, x.mean(0), 1, 5);
        CHECK.dueTold("person", x, x.person(2, 0), 1, 4);
        CHECK.dueTold("hears", x, x.hears(0, 4), 0, -8);
        CHECK.dueTold("hush", x, x.hush(1), 1, 1);
        CHECK.dueTold("about", x, x.about(2, 2), 1, 2);
        CHECK.dueTold("safe", x, x.safe(1, 0), 0, 1);
        CHECK.dueTold("cover", x, x.cover(2), 0, 0);
        CHECK.dueTold("turns", x, x.turns(), 2, 3);
        CHECK.dueTold("safes", x, x.safes(), 2, 5);
        CHECK.dueTold("most", x, x.most(), 2, 3);
        CHECK.dueTold("swap", x, x.swap(), 24, 3);
        CHECK.dueTold("tearOff", x, x.tearOff(0, 3), 3, 0);
        CHECK.dueTold("nights", x, x.nights(2, 1, 1), 1, 1);
    }

    private static void duePairs(String words, int upper, int lower) {
        PaperWalls x = Streets.of(words);
        CHECK.due("upper() of " + words, x.upper(), upper);
        CHECK.due("lower() of " + words, x.lower(), lower);
    }

    private static void fewerThanTwo() {
        PaperWalls fresh = new PaperWalls();
        CHECK.by(46, "(0, if there are fewer than two).");
        CHECK.due("nobody", fresh.upper(), 0);
        CHECK.by(47, "(1, if there are fewer than two).");
        CHECK.due("nobody", fresh.lower(), 1);
        duePairs("p1", 0, 1);
        duePairs("p1 l1", 0, 1);
        duePairs("p1 l1 l1", 1, 1);
    }

    private static void lowestTerms() {
        CHECK.by(46, "How many pairs of one who HEARS another one there are, of all such pairs, in lowest"
            + " terms: its upper number");
        duePairs("p9 l0 l1", 0, 1);
        duePairs("p5 l0 o1", 1, 2);
        duePairs("p9 o0 o0 o1", 1, 3);
        duePairs("p5 l0 o0 o1", 1, 2);
        duePairs("p9 o0 o0 o0 o1", 1, 2);
        duePairs("p0 o0 o0 o0 d0 w0 s0 i0", 20, 21);
        duePairs("p0 o0 o0 o0 o0 o0 o0 o0", 1, 1);
        duePairs("p9 o0 o0 o1 o1 o1 o1 o1", 11, 21);
        CHECK.by(47, "Its lower number");
        duePairs("p999999 o0 o1 o2 o3 o4 o5 o6", 0, 1);
        duePairs("p999999 o0 o0 o2 o3 o4 o5 o6", 1, 21);
        duePairs("p999999 o0 o0 o0 o3 o4 o5 o6", 1, 7);
    }

    private static void counts() {
        CHECK.by(48, "0 PEOPLE, 1 WALLS, 2 TALKS, 3 HOURS");
        dueCounts(new PaperWalls(), 0, 0, 0, 0, 0, 0, 0, 0, 0);
        dueCounts(Scenes.nobody(), 0, 2, 0, 0, 0, 0, 1, 1, 0);
        dueCounts(Scenes.rich(), 5, 2, 3, 3, 2, 2, 3, 3, 2);
        dueCounts(Scenes.full(), 5, 2, 8, 40, 2, 2, 0, 1, 0);
        dueCounts(Streets.of("p000000 o0 o0 o0 o0 o0 o0 o0"), 7, 6, 0, 0, 0, 0, 0, 1, 0);
    }

    private static void dueCounts(PaperWalls x, int... want) {
        for (int what = 0; what <= 8; what++) {
            CHECK.due("count(" + what + ")", x.count(what), want[what]);
        }
    }

    private static void countsOfKinds() {
        CHECK.by(48, "4 LOUD ones (SINGERS, too), 5 WHISPERERS (LISTENERS, too)");
        dueCounts(Streets.of("p0 l0 s0 l0 s0 s0 s0 s0"), 7, 1, 0, 0, 7, 0, 0, 1, 0);
        dueCounts(Streets.of("p0 w0 i0 i0 i0 i0 i0 w0"), 7, 1, 0, 0, 0, 7, 0, 1, 0);
        dueCounts(Streets.of("p0 o0 d0 d0 o0"), 4, 1, 0, 0, 0, 0, 0, 1, 0);
    }

    private static void countsOfWhatIsThere() {
        CHECK.by(48, "6 ROWS, 7 TEXTS that are there, 8 kept STREETS.");
        PaperWalls x = Streets.of("p0 o0");
        for (int r = 0; r < 6; r++) {
            x.row(r, 0);
        }
        for (int t = 1; t < 4; t++) {
            x.text(t, 0);
        }
        for (int k = 0; k < 3; k++) {
            x.keep(k);
        }
        dueCounts(x, 1, 1, 0, 0, 0, 0, 6, 4, 3);
        x.tear(0);
        x.tear(5);
        x.row(1, 3);
        dueCounts(x, 1, 1, 0, 0, 0, 0, 4, 4, 3);
        x.street(0);
        dueCounts(x, 1, 1, 0, 0, 0, 0, 4, 4, 0);
    }

    private static void countRefused() {
        CHECK.by(48, "BAD.");
        CHECK.due("count(9)", new PaperWalls().count(9), BAD);
        CHECK.due("count(-1)", new PaperWalls().count(-1), BAD);
        CHECK.due("count(least)", new PaperWalls().count(Integer.MIN_VALUE), BAD);
    }

    private static void findingBeforeAny() {
        CHECK.by(49, "The latest FINDING (0 before any).");
        PaperWalls x = new PaperWalls();
        CHECK.due("before any", x.finding(), 0);
        x.row(6, 0);
        x.keep(0);
        x.swap();
        CHECK.due("before any, though refused", x.finding(), 0);
        x.at(0, 0);
        CHECK.due("NOTHING", x.finding(), NOTHING);
        x.row(0, 0);
        CHECK.due("an answer leaves it", x.finding(), NOTHING);
        x.at(0, 0);
        CHECK.due("BEYOND", x.finding(), BEYOND);
        x.at(6, 0);
        CHECK.due("BAD leaves it", x.finding(), BEYOND);
        x.tear(1);
        CHECK.due("NOTHING again", x.finding(), NOTHING);
    }

    private static void findingsOneByOne() {
        CHECK.by(0, "FINDINGS: 1 NOTHING (a ROW, a TEXT, a kept STREET that is missing),"
            + " 2 BEYOND (a place that there is not), 3 UNLIKE (one of another KIND; a number that is none),"
            + " 4 NOUGHT (shared among none; what can't be),"
            + " 5 SIZE (fewer than none; not as many as due).");
        PaperWalls x = Scenes.apart();
        CHECK.dueFinding("a row that is missing", x, x.at(5, 0), NOTHING);
        CHECK.dueFinding("a text that is missing", x, x.put(1, 0, 0), NOTHING);
        CHECK.dueFinding("a kept street that is missing", x, x.on(0), NOTHING);
        CHECK.dueFinding("a place that there is not", x, x.lay(0, 1, 0), BEYOND);
        CHECK.dueFinding("a byte that there is not", x, x.put(0, 9, 0), BEYOND);
        CHECK.dueFinding("a talk that there is not", x, x.cover(1), BEYOND);
        CHECK.dueFinding("one of another kind", x, x.mark(0, 1), UNLIKE);
        x.row(1, 0);
        CHECK.dueFinding("shared among none", x, x.mean(1), NOUGHT);
        CHECK.dueFinding("a row of fewer than none", x, x.row(0, -1), SIZE);
        CHECK.dueFinding("a text of fewer than none", x, x.text(0, -1), SIZE);
        CHECK.dueFinding("a copy of fewer than none", x, x.copy(0, 0, 0, 0, -1), SIZE);
        CHECK.by(50, "How often a FINDING (1 .. 5) was answered.");
        int[] often = {0, 3, 3, 1, 1, 3};
        for (int f = 1; f <= 5; f++) {
            CHECK.due("findings(" + f + ")", x.findings(f), often[f]);
        }
        CHECK.by(50, "BAD.");
        CHECK.due("findings(0)", x.findings(0), BAD);
        CHECK.due("findings(6)", x.findings(6), BAD);
        CHECK.due("findings(-1)", x.findings(-1), BAD);
    }

    private static void findingsOfOtherRefusals() {
        CHECK.by(0, "What is refused changes nothing but finding(), findings().");
        PaperWalls x = Scenes.full();
        x.tell(0, 7);
        x.tell(2, 0);
        x.talk(0, 1, 0);
        x.row(6, 0);
        x.swap();
        for (int f = 1; f <= 5; f++) {
            CHECK.due("findings(" + f + ") of BAD, FULL, STATE, NONE", x.findings(f), 0);
        }
        CHECK.due("finding() of BAD, FULL, STATE, NONE", x.finding(), 0);
        CHECK.dueFinding("and then of one", x, x.tear(0), NOTHING);
        CHECK.due("findings(1)", x.findings(NOTHING), 1);
    }

    private static long mix(long start, int... all) {
        long h = start;
        for (int v : all) {
            h = 31 * h + v;
        }
        return h;
    }

    private static void digestOfNothing() {
        CHECK.by(51, "of each kept STREET how many HOURS (-1: missing); of each ROW its size (-1: missing) and places,"
            + " of each TEXT likewise.");
        long nothing = mix(17, 0, 0, 0, 0, 0, 0, 0, 0, 0);
        CHECK.due("all missing", new PaperWalls().digest(),
            mix(nothing, -1, -1, -1, -1, -1, -1, -1, -1, -1, -1, -1, -1, -1));
        PaperWalls x = new PaperWalls();
        for (int r = 0; r < 6; r++) {
            x.row(r, 0);
        }
        for (int t = 0; t < 4; t++) {
            x.text(t, 0);
        }
        CHECK.due("all empty", x.digest(),
            mix(mix(17, 0, 0, 0, 0, 0, 0, 6, 4, 0), -1, -1, -1, 0, 0, 0, 0, 0, 0, 0, 0, 0, 0));
        PaperWalls walls = Streets.of("p9");
        walls.wall(0, 20);
        CHECK.due("a wall alone", walls.digest(),
            mix(mix(17, 0, 1, 0, 0, 0, 0, 0, 1, 0), 20, -1, -1, -1, -1, -1, -1, -1, -1, -1, 2, 112, 57, -1, -1, -1));
    }

    private static void digestBySigns() {
        CHECK.by(51, "h = 17; then h = 31 h + v for each v");
        PaperWalls x = new PaperWalls();
        Streets.fill(x, 5, Integer.MIN_VALUE, Integer.MAX_VALUE, -1, 0);
        x.text(3, 3);
        x.put(3, 0, -128);
        x.put(3, 1, 255);
        long h = mix(17, 0, 0, 0, 0, 0, 0, 1, 1, 0);
        h = mix(h, -1, -1, -1, -1, -1, -1, -1, -1, 4, Integer.MIN_VALUE, Integer.MAX_VALUE, -1, 0);
        CHECK.due("ints and bytes below 0", x.digest(), mix(h, -1, -1, -1, 3, -128, -1, 32));
    }

    private static void digestOfEachPart() {
        CHECK.by(51, "count() 0 to 8; LAYERS of each WALL; of each one person() 0 to 4; of each TALK about() 0 to 2;"
            + " of each HOUR who told what (10 times who, and the thing);");
        PaperWalls x = Streets.of("p0 o0 i1");
        x.talk(1, 0, 0);
        x.comes(1, 7);
        x.tell(1, 7);
        x.keep(1);
        x.text(0, 0);
        long h = mix(17, 2, 1, 1, 1, 0, 1, 0, 1, 1);
        h = mix(h, 0);
        h = mix(h, 0, 0, 5, 5, 128, 5, 1, 2, 2, 128);
        h = mix(h, 1, 0, 0);
        h = mix(h, 17);
        CHECK.due("each part", x.digest(), mix(h, -1, 1, -1, -1, -1, -1, -1, -1, -1, 0, -1, -1, -1));
        x.off(0);
        x.undo(0);
        x.move(0, 1);
        h = mix(17, 2, 1, 0, 0, 0, 1, 0, 1, 1);
        h = mix(h, 0);
        h = mix(h, 0, 1, 5, 5, 0, 5, 1, 2, 2, 128);
        CHECK.due("off, undone, moved", x.digest(), mix(h, -1, 1, -1, -1, -1, -1, -1, -1, -1, 0, -1, -1, -1));
    }

    private static void digestOfFull() {
        CHECK.by(51, "then h = 31 h + v for each v");
        PaperWalls x = Scenes.full();
        x.row(0, 40);
        x.lay(0, 39, 3);
        x.text(0, 80);
        x.keep(0);
        long h = mix(17, 5, 2, 8, 40, 2, 2, 1, 1, 1);
        h = mix(h, 5, 5);
        h = mix(h, 0, 0, 5, 5, 1, 2, 0, 2, 2, 1, 4, 1, 8, 10, 129, 1, 2, 8, 8, 129, 5, 2, 2, 2, 129);
        for (int k = 0; k < 8; k++) {
            h = mix(h, 2, 4, 1);
        }
        for (int hour = 0; hour < 20; hour++) {
            h = mix(h, 20, 37);
        }
        h = mix(h, 40, -1, -1, 40);
        h = mix(h, new int[39]);
        h = mix(h, 3, -1, -1, -1, -1, -1, 80);
        for (int i = 0; i < 80; i++) {
            h = mix(h, 32);
        }
        CHECK.due("all full", x.digest(), mix(h, -1, -1, -1));
    }

    private static void digestAsksNothing() {
        CHECK.by(51, "(of a call that tells by asked(): what it tells, not the 1 that it answers; asked() stays)");
        PaperWalls x = Scenes.rich();
        int told = x.asked();
        int found = x.finding();
        long h = x.digest();
        CHECK.due("asked() stays", x.asked(), told);
        CHECK.due("finding() stays", x.finding(), found);
        CHECK.due("digest() again", x.digest(), h);
    }

    /** Calls that search or try something out leave all as it was, but what they tell or lay into a row. */
    private static void onlyTells() {
        CHECK.due("calls that only tell leave all", Twins.stayAlike(ToldEdgesTest::tellingScene, x -> {
            x.fault(0);
            x.fault(1);
            x.mark(2, 4);
            x.hears(0, 1);
            x.heard(0, 6);
            x.noise(0, 31);
            x.hush(2);
            x.about(0, 0);
            x.safe(1, 9);
            x.cover(1);
            x.beside(7);
            x.turns();
            x.most();
            x.safes();
            x.swap();
            x.tearOff(0, 3);
            x.rent(1);
            x.know(0);
            x.knowsThat(0, 1, 0);
            x.spread(0, 20);
            x.leak(3);
            x.leaks(3);
            x.nights(0, 60, 5);
            x.upper();
            x.lower();
            x.count(3);
            x.findings(1);
            x.digest();
            x.rooms(1);
            x.paste(1, 1);
            x.row(1, 0);
            x.at(0, 0);
        }) ? 1 : 0, 1);
        CHECK.due("none undone, off or copied leave all", Twins.stayAlike(ToldEdgesTest::tellingScene, x -> {
            x.off(3);
            x.undo(3);
            x.copy(0, 0, 0, 0, 3);
            x.copy(0, 3, 1, 0, 0);
            x.move(0, 0);
            x.wall(1, 5);
            x.comes(0, 6);
            x.lay(0, 0, 3);
        }) ? 1 : 0, 1);
    }

    private static PaperWalls tellingScene() {
        PaperWalls x = Scenes.rich();
        x.at(0, 0);
        return x;
    }
}
