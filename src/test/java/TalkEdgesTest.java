/** Promises 20 to 28, and talks among the terms: a test for each sentence that has an edge. */
public final class TalkEdgesTest {
    private static final int BAD = PaperWalls.BAD, FULL = PaperWalls.FULL, NONE = PaperWalls.NONE;
    private static final int BEYOND = 2;
    private static final Check CHECK = new Check("TalkEdgesTest");

    public static void main(String[] args) {
        eightTalks();
        neitherOfBoth();
        neitherOfBothSings();
        noneOfThoseWhoMustNot();
        nobodyOfBoth();
        othersSpeechIsNoise();
        songsAreNoNoiseBeside();
        talkRefused();
        off();
        about();
        safe();
        safeRefused();
        cover();
        coverTheLeast();
        coverNever();
        beside();
        turnsOfNone();
        turnsOfEight();
        turnsTheLeast();
        turnsNever();
        mostOfNone();
        mostTheLeast();
        safes();
        CHECK.end();
    }

    private static void eightTalks() {
        CHECK.by(0, "A TALK 0, 1, .. (8 at most) is of one who SPEAKS, of another one who has to HEAR it,"
            + " and of a set who must not (neither of both).");
        PaperWalls x = Streets.of("p0 o0 o0 o0 o0 o0 o0 o0");
        for (int k = 0; k < 8; k++) {
            CHECK.due("talk " + k, x.talk(k % 7, (k + 1) % 7, 0), k);
        }
        CHECK.due("eight", x.count(2), 8);
        CHECK.by(20, "FULL.");
        CHECK.due("a ninth", x.talk(0, 1, 0), FULL);
        CHECK.due("eight, still", x.count(2), 8);
        CHECK.due("one off", x.off(7), 1);
        CHECK.due("one more", x.talk(0, 1, 0), 7);
        CHECK.due("a ninth again", x.talk(0, 1, 0), FULL);
    }

    private static void neitherOfBoth() {
        CHECK.by(20, "A TALK: its number. BAD: also with oneself, or one of both among those who must not;");
        PaperWalls x = Streets.of("p0 o0 o0 o0 o0 o0 o0 o0");
        CHECK.due("with oneself", x.talk(6, 6, 0), BAD);
        CHECK.due("who speaks", x.talk(6, 0, 64), BAD);
        CHECK.due("who has to hear", x.talk(0, 6, 64), BAD);
        CHECK.due("both", x.talk(0, 6, 65), BAD);
        CHECK.due("all", x.talk(0, 6, 127), BAD);
        CHECK.due("all but both", x.talk(0, 6, 62), 0);
        CHECK.due("none", x.talk(6, 0, 0), 1);
        CHECK.dueTold("all but both", x, x.about(0, 2), 1, 62);
        CHECK.dueTold("none", x, x.about(1, 2), 1, 0);
    }

    private static void neitherOfBothSings() {
        CHECK.by(0, "It is SAFE, a set SINGING, if neither of both SINGS, the one HEARS it");
        PaperWalls x = Streets.of("p0 w0 i0 l0");
        x.talk(0, 1, 0);
        x.talk(2, 1, 0);
        CHECK.due("nobody sings", x.safe(0, 0), 1);
        CHECK.due("who speaks sings, though it is heard by as much as that", x.safe(0, 1), 0);
        CHECK.due("who has to hear sings", x.safe(0, 2), 0);
        CHECK.due("both sing", x.safe(0, 3), 0);
        CHECK.due("another one sings too loud", x.safe(0, 4), 0);
        CHECK.due("another one sings", x.safe(1, 1), 1);
        CHECK.due("another one sings, and who has to hear", x.safe(1, 3), 0);
        PaperWalls far = Streets.of("p5 o0 o1");
        far.talk(0, 1, 0);
        CHECK.due("not heard", far.safe(0, 0), 0);
        far.wall(0, 4);
        CHECK.due("just heard", far.safe(0, 0), 1);
    }

    private static void noneOfThoseWhoMustNot() {
        CHECK.by(0, "and none of those who must not.");
        PaperWalls x = Streets.of("p4 o0 o0 o1 d1 i1");
        x.talk(0, 1, 0);
        x.talk(0, 1, 4);
        x.talk(0, 1, 8);
        x.talk(0, 1, 16);
        x.talk(0, 1, 28);
        CHECK.dueTold("none must not", x, x.safe(0, 0), 1, 0);
        CHECK.dueTold("by 1", x, x.safe(1, 0), 0, 4);
        CHECK.dueTold("by 1, deaf", x, x.safe(2, 0), 1, 0);
        CHECK.dueTold("by 1, listening", x, x.safe(3, 0), 0, 16);
        CHECK.dueTold("two of three", x, x.safe(4, 0), 0, 20);
        x.wall(0, 5);
        CHECK.dueTold("by 0", x, x.safe(1, 0), 1, 0);
        CHECK.dueTold("by 0, listening", x, x.safe(3, 0), 0, 16);
        CHECK.dueTold("one of three", x, x.safe(4, 0), 0, 16);
        CHECK.dueTold("that one sings", x, x.safe(4, 16), 1, 0);
        x.wall(0, 6);
        CHECK.dueTold("by -1", x, x.safe(4, 0), 1, 0);
        x.wall(0, 1);
        CHECK.dueTold("by 4, deaf", x, x.safe(2, 0), 0, 8);
    }

    private static void nobodyOfBoth() {
        CHECK.by(0, "TALKS go side by side (in one HOUR), if nobody is of both (as one who SPEAKS or has to HEAR)");
        PaperWalls x = Streets.of("p99 o0 o0 w0 o2 o2 w2 i1");
        x.talk(0, 1, 0);
        x.talk(3, 4, 0);
        x.talk(0, 2, 0);
        x.talk(2, 0, 0);
        x.talk(1, 2, 0);
        x.talk(2, 1, 0);
        CHECK.due("others", x.beside(3), 1);
        CHECK.due("one speaks in both", x.beside(5), 0);
        CHECK.due("one speaks and has to hear", x.beside(9), 0);
        CHECK.due("one has to hear and speaks", x.beside(17), 0);
        CHECK.due("one has to hear in both", x.beside(33), 0);
        CHECK.due("two of three", x.beside(7), 0);
        x.off(2);
        x.talk(5, 6, 3);
        x.wall(1, 2);
        CHECK.due("who must not is of another one", x.beside(5), 1);
        PaperWalls both = Streets.of("p0 o0 o0 i0");
        both.talk(0, 2, 0);
        both.talk(1, 2, 0);
        CHECK.due("one has to hear both, and would, listening", both.beside(3), 0);
        PaperWalls on = Streets.of("p6 l0 i1 i1");
        on.talk(0, 1, 0);
        on.talk(1, 2, 0);
        CHECK.due("one has to hear and speaks, and could, listening", on.beside(3), 0);
        on.off(0);
        on.talk(1, 2, 0);
        on.talk(0, 1, 0);
        CHECK.due("one speaks and has to hear, and could, listening", on.beside(3), 0);
    }

    private static void othersSpeechIsNoise() {
        CHECK.by(0, "and each is SAFE (nobody SINGING), what the others' speakers SPEAK being NOISE, too.");
        PaperWalls x = Streets.of("p4 o0 o0 o1 o1 s1 i1");
        x.talk(0, 1, 4);
        x.talk(2, 3, 0);
        CHECK.due("not safe alone", x.beside(1), 0);
        CHECK.due("covered by who must not, who speaks", x.beside(3), 1);
        x.off(1);
        x.talk(4, 5, 0);
        CHECK.due("8 less 4 below 5", x.beside(3), 1);
        x.wall(0, 3);
        CHECK.due("8 less 3 is not below 5", x.beside(3), 0);
        PaperWalls listens = Streets.of("p3 o0 i0 l1 o1");
        listens.talk(0, 1, 0);
        listens.talk(2, 3, 0);
        CHECK.due("as much as the noise, listening", listens.beside(3), 1);
        listens.wall(0, 2);
        CHECK.due("below the noise", listens.beside(3), 0);
        PaperWalls own = Streets.of("p0 o0 o0");
        own.talk(0, 1, 0);
        CHECK.due("one's own speech is no noise", own.beside(1), 1);
        PaperWalls three = Streets.of("p55 o0 o0 o1 o1 o2 o2");
        three.talk(0, 1, 0);
        three.talk(2, 3, 0);
        three.talk(4, 5, 0);
        CHECK.due("three", three.beside(7), 1);
        three.wall(0, 0);
        CHECK.due("the first two drown one another", three.beside(7), 0);
        CHECK.due("the last two", three.beside(6), 1);
    }

    private static void songsAreNoNoiseBeside() {
        CHECK.by(0, "what the others' speakers SPEAK being NOISE, too.");
        PaperWalls x = Streets.of("p4 o0 o0 s1 o1");
        x.talk(0, 1, 0);
        x.talk(2, 3, 0);
        CHECK.due("a singer speaks by 8 less 4", x.beside(3), 1);
        CHECK.due("but sings by 10 less 4", x.safe(0, 4), 0);
    }

    private static void talkRefused() {
        CHECK.by(20, "BAD: also with oneself");
        PaperWalls x = Streets.of("p0 o0 o0 o0");
        CHECK.due("talk(3, 0, 0)", x.talk(3, 0, 0), BAD);
        CHECK.due("talk(0, 3, 0)", x.talk(0, 3, 0), BAD);
        CHECK.due("talk(-1, 0, 0)", x.talk(-1, 0, 0), BAD);
        CHECK.due("talk(0, -1, 0)", x.talk(0, -1, 0), BAD);
        CHECK.due("nobody's bits", x.talk(0, 1, 8), BAD);
        CHECK.due("nobody's bits and others", x.talk(0, 1, 12), BAD);
        CHECK.due("bits below 0", x.talk(0, 1, -8), BAD);
        CHECK.due("the sign's bit", x.talk(0, 1, Integer.MIN_VALUE), BAD);
        CHECK.due("none", x.count(2), 0);
        CHECK.due("nobody to talk", new PaperWalls().talk(0, 1, 0), BAD);
    }

    private static void off() {
        CHECK.by(21, "TALKS from number n on (0 to how many there are: none then) are off: how many.");
        PaperWalls x = Scenes.full();
        CHECK.due("off(8)", x.off(8), 0);
        CHECK.due("eight", x.count(2), 8);
        CHECK.due("off(7)", x.off(7), 1);
        CHECK.due("off(7) again", x.off(7), 0);
        CHECK.due("off(0)", x.off(0), 7);
        CHECK.due("off(0) again", x.off(0), 0);
        CHECK.due("none", x.count(2), 0);
        CHECK.due("numbers begin anew", x.talk(1, 0, 0), 0);
        CHECK.by(21, "BAD.");
        CHECK.due("off(2)", x.off(2), BAD);
        CHECK.due("off(-1)", x.off(-1), BAD);
        CHECK.due("off(0) of none", new PaperWalls().off(0), 0);
        CHECK.due("off(1) of none", new PaperWalls().off(1), BAD);
    }

    private static void about() {
        CHECK.by(22, "Of a TALK: 0 who SPEAKS, 1 who has to HEAR, 2 who must not (bits), told by asked(): 1.");
        PaperWalls x = Streets.of("p0 o0 o0 o0 o0 o0 o0 o0");
        for (int k = 0; k < 8; k++) {
            x.talk(6, 5, k);
        }
        CHECK.dueTold("about(7, 0)", x, x.about(7, 0), 1, 6);
        CHECK.dueTold("about(7, 1)", x, x.about(7, 1), 1, 5);
        CHECK.dueTold("about(7, 2)", x, x.about(7, 2), 1, 7);
        CHECK.dueTold("about(0, 2)", x, x.about(0, 2), 1, 0);
        CHECK.by(22, "BAD: also below 0; BEYOND.");
        CHECK.due("about(-1, 0)", x.about(-1, 0), BAD);
        CHECK.due("about(0, 3)", x.about(0, 3), BAD);
        CHECK.due("about(0, -1)", x.about(0, -1), BAD);
        CHECK.dueFinding("about(8, 0)", x, x.about(8, 0), BEYOND);
        x.off(7);
        CHECK.dueFinding("about(7, 0)", x, x.about(7, 0), BEYOND);
        CHECK.due("about(7, 3)", x.about(7, 3), BAD);
        PaperWalls fresh = new PaperWalls();
        CHECK.dueFinding("no talks", fresh, fresh.about(0, 0), BEYOND);
    }

    private static void safe() {
        CHECK.by(23, "Whether a TALK is SAFE, a set SINGING (1, 0); who HEARS it of those who must not"
            + " (bits) by asked().");
        PaperWalls x = Streets.of("p0 o0 o0 o0 o0 o0 o0 o0");
        x.talk(0, 6, 62);
        x.talk(0, 1, 0);
        CHECK.dueTold("all who must not", x, x.safe(0, 0), 0, 62);
        CHECK.dueTold("others are not told", x, x.safe(1, 0), 1, 0);
        CHECK.dueTold("all sing", x, x.safe(0, 127), 0, 0);
        CHECK.dueTold("all who must not sing", x, x.safe(0, 62), 0, 0);
        x.move(6, 1);
        x.wall(0, 4);
        CHECK.dueTold("5 is heard over 1", x, x.safe(0, 64), 0, 62);
        x.wall(0, 0);
        CHECK.dueTold("5 is not heard over 5", x, x.safe(0, 64), 0, 0);
    }

    private static void safeRefused() {
        CHECK.by(23, "BAD; BEYOND.");
        PaperWalls x = Scenes.full();
        CHECK.due("nobody's bits", x.safe(0, 32), BAD);
        CHECK.due("bits below 0", x.safe(0, -1), BAD);
        CHECK.due("nobody's bits, ahead", x.safe(8, 32), BAD);
        CHECK.dueFinding("a ninth", x, x.safe(8, 0), BEYOND);
        CHECK.dueTold("an eighth", x, x.safe(7, 31), 0, 0);
    }

    private static void dueCover(String words, int not, int fewest, int who) {
        PaperWalls x = Streets.of(words);
        x.talk(0, 1, not);
        CHECK.dueTold("cover(0) of " + words, x, x.cover(0), fewest, who);
    }

    private static void cover() {
        CHECK.by(24, "The fewest who have to SING so that a TALK is SAFE");
        dueCover("p0 o0 o0", 0, 0, 0);
        dueCover("p5 o0 o0 o1", 4, 0, 0);
        dueCover("p5 o0 o0 i1", 4, 1, 4);
        dueCover("p0 l0 o0 o0 o0 o0 o0 o0", 124, 5, 124);
        dueCover("p3 l0 l0 o1 o1 o1 o1 o1", 124, 1, 4);
        dueCover("p4 o0 o0 l1 o1 o1", 24, 1, 4);
    }

    private static void coverTheLeast() {
        CHECK.by(24, "who (bits; the least) by asked().");
        dueCover("p4 o0 o0 o1 o1 o1", 8, 1, 4);
        dueCover("p4 o0 o0 i1 o1 o1", 4, 1, 4);
        dueCover("p2 l0 l0 w1 w1 w1 l1", 28, 1, 32);
        dueCover("p4 o0 o0 w1 o1 o1", 16, 1, 4);
        dueCover("p44 o1 o1 i0 i2 l0 l2", 12, 2, 12);
    }

    private static void coverNever() {
        CHECK.by(24, "NONE: never. BAD: below 0; BEYOND.");
        PaperWalls x = Scenes.apart();
        int told = x.asked();
        CHECK.dueTold("never heard", x, x.cover(0), NONE, told);
        CHECK.due("below 0", x.cover(-1), BAD);
        CHECK.due("far below 0", x.cover(Integer.MIN_VALUE), BAD);
        CHECK.dueFinding("a second one", x, x.cover(1), BEYOND);
        PaperWalls full = Scenes.full();
        CHECK.dueTold("an eighth", full, full.cover(7), 1, 1);
        CHECK.dueFinding("a ninth", full, full.cover(8), BEYOND);
    }

    private static void beside() {
        CHECK.by(25, "Whether a set of TALKS can go side by side (1, 0; the empty one: 1).");
        CHECK.due("the empty one, without a street", new PaperWalls().beside(0), 1);
        CHECK.due("the empty one, without talks", Streets.of(Streets.FIVE).beside(0), 1);
        CHECK.due("the empty one, with one never safe", Scenes.apart().beside(0), 1);
        PaperWalls full = Scenes.full();
        CHECK.due("the last of eight", full.beside(128), 0);
        CHECK.due("all eight", full.beside(255), 0);
        full.off(7);
        full.talk(0, 1, 0);
        CHECK.due("the last of eight, safe", full.beside(128), 1);
        CHECK.by(25, "BAD: also bits of TALKS that there are not.");
        CHECK.due("a ninth", full.beside(256), BAD);
        CHECK.due("a ninth and others", full.beside(384), BAD);
        CHECK.due("below 0", full.beside(-1), BAD);
        full.off(7);
        CHECK.due("one that is off", full.beside(128), BAD);
        CHECK.due("of none", new PaperWalls().beside(1), BAD);
    }

    private static void turnsOfNone() {
        CHECK.by(26, "0 without TALKS) by asked().");
        PaperWalls fresh = new PaperWalls();
        fresh.row(0, 1);
        fresh.lay(0, 0, 9);
        fresh.at(0, 0);
        CHECK.dueTold("without a street", fresh, fresh.turns(), 0, 0);
        PaperWalls x = Scenes.apart();
        x.off(0);
        CHECK.dueTold("without talks", x, x.turns(), 0, 0);
    }

    private static void turnsOfEight() {
        CHECK.by(26, "In how few HOURS all TALKS can be, each once, those of an HOUR side by side");
        PaperWalls x = Streets.of("p99 o0 o0 o1 o1 o2 o2");
        x.talk(0, 1, 0);
        CHECK.dueTold("one", x, x.turns(), 1, 1);
        x.talk(2, 3, 0);
        x.talk(4, 5, 0);
        CHECK.dueTold("three in one", x, x.turns(), 1, 7);
        x.talk(1, 0, 0);
        CHECK.dueTold("four in two", x, x.turns(), 2, 1);
        x.talk(3, 2, 0);
        x.talk(5, 4, 0);
        CHECK.dueTold("six in two", x, x.turns(), 2, 7);
        x.talk(0, 1, 0);
        x.talk(0, 1, 0);
        CHECK.dueTold("eight in four", x, x.turns(), 4, 1);
        x.off(0);
        for (int k = 0; k < 8; k++) {
            x.talk(k % 2, 1 - k % 2, 0);
        }
        CHECK.dueTold("eight in eight", x, x.turns(), 8, 1);
    }

    private static void turnsTheLeast() {
        CHECK.by(26, "which are in that of TALK 0 (bits; of alike ways the least;");
        PaperWalls x = Streets.of("p99 o0 o0 o1 o1 o2 o2");
        x.talk(0, 1, 0);
        x.talk(2, 3, 0);
        x.talk(2, 3, 0);
        CHECK.dueTold("with the lesser of two", x, x.turns(), 2, 3);
        x.talk(0, 1, 0);
        CHECK.dueTold("with the lesser of two, two by two", x, x.turns(), 2, 3);
        x.off(1);
        x.talk(0, 1, 0);
        x.talk(4, 5, 0);
        CHECK.dueTold("alone", x, x.turns(), 2, 1);
        PaperWalls chain = Streets.of("p4 o0 o0 o1 o1");
        chain.talk(0, 1, 0);
        chain.talk(1, 2, 0);
        chain.talk(2, 3, 0);
        CHECK.dueTold("with the third, as the second is with none", chain, chain.turns(), 2, 5);
        PaperWalls covered = Streets.fiveWithTalks();
        CHECK.dueTold("not alone, as another one is not safe alone", covered, covered.turns(), 2, 3);
    }

    private static void turnsNever() {
        CHECK.by(26, "NONE: never.");
        PaperWalls x = Scenes.apart();
        int told = x.asked();
        CHECK.dueTold("one", x, x.turns(), NONE, told);
        PaperWalls one = Scenes.full();
        one.off(0);
        for (int k = 0; k < 7; k++) {
            one.talk(0, 1, 0);
        }
        CHECK.dueTold("seven", one, one.turns(), 7, 1);
        one.talk(0, 4, 0);
        CHECK.dueTold("one of eight never", one, one.turns(), NONE, 1);
    }

    private static void mostOfNone() {
        CHECK.by(27, "The most TALKS that can go side by side; which (bits; the least) by asked().");
        PaperWalls fresh = Scenes.nobody();
        CHECK.dueTold("without talks", fresh, fresh.most(), 0, 0);
        PaperWalls x = Scenes.apart();
        CHECK.dueTold("none is safe", x, x.most(), 0, 0);
        PaperWalls full = Scenes.full();
        full.off(7);
        full.talk(0, 1, 0);
        CHECK.dueTold("the eighth, and one that it covers", full, full.most(), 2, 129);
    }

    private static void mostTheLeast() {
        CHECK.by(27, "(bits; the least)");
        PaperWalls x = Streets.of("p99 o0 o0 o1 o1 o2 o2");
        x.talk(0, 1, 0);
        x.talk(1, 0, 0);
        CHECK.dueTold("the first of two", x, x.most(), 1, 1);
        x.talk(2, 3, 0);
        x.talk(3, 2, 0);
        CHECK.dueTold("two of four", x, x.most(), 2, 5);
        x.talk(4, 5, 0);
        CHECK.dueTold("three of five", x, x.most(), 3, 21);
        x.talk(5, 4, 0);
        CHECK.dueTold("three of six", x, x.most(), 3, 21);
    }

    private static void safes() {
        CHECK.by(28, "How many TALKS are SAFE, nobody SINGING; which (bits) by asked().");
        PaperWalls fresh = Scenes.nobody();
        CHECK.dueTold("without talks", fresh, fresh.safes(), 0, 0);
        PaperWalls x = Scenes.full();
        CHECK.dueTold("none of eight", x, x.safes(), 0, 0);
        x.wall(0, 20);
        CHECK.dueTold("eight of eight", x, x.safes(), 8, 255);
        x.off(7);
        x.talk(4, 0, 0);
        CHECK.dueTold("all but the last", x, x.safes(), 7, 127);
        PaperWalls covered = Streets.fiveWithTalks();
        CHECK.dueTold("one that others alone can cover is not", covered, covered.safes(), 2, 5);
    }
}
