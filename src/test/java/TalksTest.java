/** Promises 20 to 28: talks, safe ones, covers, turns. */
public final class TalksTest {
    private static final int BAD = PaperWalls.BAD, FULL = PaperWalls.FULL, NONE = PaperWalls.NONE;
    private static final int BEYOND = 2;
    private static final Check CHECK = new Check("TalksTest");

    public static void main(String[] args) {
        talk();
        off();
        about();
        safe();
        cover();
        beside();
        besideNoise();
        turns();
        turnsTie();
        most();
        safes();
        CHECK.end();
    }

    private static void talk() {
        PaperWalls x = Streets.of(Streets.FIVE);
        CHECK.due("talk(0, 1, 28)", x.talk(0, 1, 28), 0);
        CHECK.due("talk(1, 0, 0)", x.talk(1, 0, 0), 1);
        CHECK.due("with oneself", x.talk(0, 0, 0), BAD);
        CHECK.due("who speaks must not", x.talk(0, 1, 1), BAD);
        CHECK.due("who hears must not", x.talk(0, 1, 2), BAD);
        CHECK.due("talk(5, 0, 0)", x.talk(5, 0, 0), BAD);
        CHECK.due("talk(0, 5, 0)", x.talk(0, 5, 0), BAD);
        CHECK.due("talk(-1, 0, 0)", x.talk(-1, 0, 0), BAD);
        CHECK.due("talk(0, -1, 0)", x.talk(0, -1, 0), BAD);
        CHECK.due("no such bits", x.talk(0, 1, 32), BAD);
        CHECK.due("negative bits", x.talk(0, 1, -4), BAD);
        CHECK.due("count(2)", x.count(2), 2);
        for (int k = 2; k < 8; k++) {
            CHECK.due("talk " + k, x.talk(2, 3, 16), k);
        }
        CHECK.due("a ninth", x.talk(0, 1, 0), FULL);
        CHECK.due("BAD ahead of FULL", x.talk(0, 0, 0), BAD);
        CHECK.due("eight", x.count(2), 8);
    }

    private static void off() {
        PaperWalls x = Streets.fiveWithTalks();
        CHECK.due("off(4)", x.off(4), BAD);
        CHECK.due("off(-1)", x.off(-1), BAD);
        CHECK.due("off(3)", x.off(3), 0);
        CHECK.due("off(1)", x.off(1), 2);
        CHECK.due("count(2)", x.count(2), 1);
        CHECK.dueFinding("gone", x, x.safe(1, 0), BEYOND);
        CHECK.due("anew", x.talk(4, 3, 0), 1);
        CHECK.dueTold("about the new one", x, x.about(1, 2), 1, 0);
        CHECK.due("off(0)", x.off(0), 2);
        CHECK.due("off(0) again", x.off(0), 0);
    }

    private static void about() {
        PaperWalls x = Streets.fiveWithTalks();
        CHECK.dueTold("about(0, 1)", x, x.about(0, 1), 1, 1);
        CHECK.dueTold("about(1, 0)", x, x.about(1, 0), 1, 2);
        CHECK.dueTold("about(1, 1)", x, x.about(1, 1), 1, 4);
        CHECK.dueTold("about(1, 2)", x, x.about(1, 2), 1, 1);
        CHECK.dueTold("about(2, 2)", x, x.about(2, 2), 1, 2);
        CHECK.due("about(0, 3)", x.about(0, 3), BAD);
        CHECK.due("about(0, -1)", x.about(0, -1), BAD);
        CHECK.due("about(-1, 0)", x.about(-1, 0), BAD);
        CHECK.due("about(3, 3)", x.about(3, 3), BAD);
        CHECK.dueFinding("about(3, 0)", x, x.about(3, 0), BEYOND);
        CHECK.dueFinding("about(99, 0)", x, x.about(99, 0), BEYOND);
        CHECK.due("asked() stays", x.asked(), 2);
    }

    private static void safe() {
        PaperWalls x = Streets.fiveWithTalks();
        CHECK.dueTold("heard by just one", x, x.safe(0, 0), 1, 0);
        CHECK.dueTold("heard by who must not", x, x.safe(1, 0), 0, 1);
        CHECK.dueTold("not heard by who must not", x, x.safe(2, 0), 1, 0);
        CHECK.dueTold("who must not sings", x, x.safe(1, 1), 1, 0);
        CHECK.dueTold("a song too low", x, x.safe(1, 2), 0, 1);
        CHECK.dueTold("a song too loud", x, x.safe(1, 8), 0, 1);
        CHECK.dueTold("a song as loud", x, x.safe(0, 4), 0, 0);
        CHECK.dueTold("a song far off", x, x.safe(0, 24), 1, 0);
        CHECK.dueTold("who speaks sings", x, x.safe(2, 8), 0, 0);
        CHECK.dueTold("who has to hear sings", x, x.safe(2, 16), 0, 0);
        x.talk(4, 3, 0);
        x.move(4, 0);
        CHECK.dueTold("not heard at all", x, x.safe(3, 0), 0, 0);
        CHECK.due("no such bits", x.safe(0, 32), BAD);
        CHECK.due("negative bits", x.safe(0, -1), BAD);
        CHECK.due("safe(-1, 0)", x.safe(-1, 0), BAD);
        CHECK.due("BAD ahead of BEYOND", x.safe(9, 32), BAD);
        CHECK.dueFinding("safe(4, 0)", x, x.safe(4, 0), BEYOND);
        PaperWalls both = Streets.of("p0 o0 o0 l0 i0 w0");
        both.talk(0, 1, 28);
        CHECK.dueTold("all of those who must not", both, both.safe(0, 0), 0, 28);
        CHECK.dueTold("a listener by as much as the noise", both, both.safe(0, 4), 0, 0);
        PaperWalls equal = Streets.of("p0 o0 i0 o0 i0");
        equal.talk(0, 1, 8);
        CHECK.dueTold("both listeners by as much as the noise", equal, equal.safe(0, 4), 0, 8);
    }

    private static void cover() {
        PaperWalls x = Streets.fiveWithTalks();
        CHECK.dueTold("none has to", x, x.cover(0), 0, 0);
        CHECK.dueTold("one has to", x, x.cover(1), 1, 1);
        PaperWalls two = Streets.of("p33 o1 o1 o0 o2 o0");
        two.talk(0, 1, 12);
        CHECK.dueTold("two have to", two, two.cover(0), 2, 12);
        two.talk(0, 1, 4);
        CHECK.dueTold("the least of two", two, two.cover(1), 1, 4);
        PaperWalls never = Streets.of("p9 o0 o1 o1");
        never.talk(0, 1, 0);
        never.talk(0, 2, 2);
        never.person(0, 2);
        CHECK.due("never heard", never.cover(0), NONE);
        CHECK.due("never heard, too", never.cover(1), NONE);
        CHECK.due("asked() stays", never.asked(), 5);
        CHECK.due("cover(-1)", never.cover(-1), BAD);
        CHECK.dueFinding("cover(2)", never, never.cover(2), BEYOND);
    }

    private static void beside() {
        PaperWalls x = Streets.fiveWithTalks();
        CHECK.due("no talks", x.beside(0), 1);
        CHECK.due("a safe one", x.beside(1), 1);
        CHECK.due("one that is not safe", x.beside(2), 0);
        CHECK.due("one covered by another one", x.beside(3), 1);
        CHECK.due("two safe ones", x.beside(5), 1);
        CHECK.due("one who hears both", x.beside(6), 0);
        CHECK.due("all", x.beside(7), 0);
        CHECK.due("no such bits", x.beside(8), BAD);
        CHECK.due("negative bits", x.beside(-1), BAD);
        x.off(1);
        CHECK.due("bits of one off", x.beside(2), BAD);
    }

    private static void besideNoise() {
        PaperWalls x = Streets.of("p1 o0 o0 l1 o1 i0");
        x.talk(0, 1, 0);
        x.talk(2, 3, 0);
        CHECK.due("alone", x.beside(1), 1);
        CHECK.due("drowned by another one", x.beside(3), 0);
        x.talk(3, 0, 0);
        CHECK.due("who hears in one speaks in another one", x.beside(5), 0);
        x.talk(1, 0, 0);
        CHECK.due("the same two", x.beside(9), 0);
        PaperWalls sung = Streets.of("p3 o0 o0 s1 s1");
        sung.talk(0, 1, 0);
        sung.talk(2, 3, 0);
        CHECK.due("5 above 5 is not", sung.beside(3), 0);
        sung.wall(0, 4);
        CHECK.due("a singer speaks by 8 alone", sung.beside(3), 1);
    }

    private static void turns() {
        PaperWalls x = Streets.fiveWithTalks();
        CHECK.dueTold("two hours", x, x.turns(), 2, 3);
        x.off(1);
        CHECK.dueTold("one hour", x, x.turns(), 1, 1);
        x.talk(2, 4, 1);
        CHECK.dueTold("one hour side by side", x, x.turns(), 1, 3);
        x.off(0);
        CHECK.dueTold("no talks", x, x.turns(), 0, 0);
        x.talk(2, 4, 1);
        x.person(0, 2);
        CHECK.due("never", x.turns(), NONE);
        CHECK.due("asked() stays", x.asked(), 5);
        for (int k = 1; k < 8; k++) {
            x.talk(0, 1, 0);
        }
        CHECK.dueTold("eight", x, x.turns(), 7, 3);
    }

    private static void turnsTie() {
        PaperWalls x = Streets.of("p9 o0 o0 o1 o1");
        x.talk(0, 1, 0);
        x.talk(2, 3, 0);
        x.talk(0, 1, 0);
        CHECK.dueTold("the least of alike ways", x, x.turns(), 2, 1);
        x.talk(2, 3, 0);
        CHECK.dueTold("just one with the first", x, x.turns(), 2, 3);
        x.off(0);
        x.talk(2, 3, 0);
        x.talk(2, 3, 0);
        x.talk(0, 1, 0);
        CHECK.dueTold("alone", x, x.turns(), 2, 1);
    }

    private static void most() {
        PaperWalls x = Streets.fiveWithTalks();
        CHECK.dueTold("the least of two", x, x.most(), 2, 3);
        x.wall(0, 0);
        CHECK.dueTold("one not safe but beside another one", x, x.most(), 2, 5);
        x.off(2);
        CHECK.dueTold("one", x, x.most(), 1, 1);
        x.off(0);
        CHECK.dueTold("no talks", x, x.most(), 0, 0);
        x.talk(0, 4, 0);
        x.wall(1, 6);
        CHECK.dueTold("none", x, x.most(), 0, 0);
    }

    private static void safes() {
        PaperWalls x = Streets.fiveWithTalks();
        CHECK.dueTold("two", x, x.safes(), 2, 5);
        x.wall(0, 20);
        CHECK.dueTold("three", x, x.safes(), 3, 7);
        x.move(1, 2);
        CHECK.dueTold("one", x, x.safes(), 1, 2);
        x.off(0);
        CHECK.dueTold("no talks", x, x.safes(), 0, 0);
    }
}
