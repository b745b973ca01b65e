/** Promises 12 to 19: people, marks, walls, moves, who hears whom. */
public final class PeopleTest {
    private static final int BAD = PaperWalls.BAD;
    private static final int UNLIKE = 3;
    private static final Check CHECK = new Check("PeopleTest");

    public static void main(String[] args) {
        person();
        mark();
        markRefused();
        wall();
        move();
        hears();
        heard();
        heardThroughSongs();
        noise();
        hush();
        CHECK.end();
    }

    private static void person() {
        PaperWalls x = Streets.of("p2 o0 l1 w0 d1 s0 i1");
        int[] speaks = {5, 8, 2, 5, 8, 2};
        int[] sings = {5, 8, 2, 5, 10, 2};
        for (int one = 0; one < 6; one++) {
            CHECK.dueTold("kind of " + one, x, x.person(one, 0), 1, one);
            CHECK.dueTold("room of " + one, x, x.person(one, 1), 1, one % 2);
            CHECK.dueTold("speech of " + one, x, x.person(one, 2), 1, speaks[one]);
            CHECK.dueTold("song of " + one, x, x.person(one, 3), 1, sings[one]);
            CHECK.dueTold("things of " + one, x, x.person(one, 4), 1, 0);
        }
        x.comes(5, 0);
        x.comes(5, 7);
        x.comes(0, 1);
        CHECK.dueTold("things that came", x, x.person(5, 4), 1, 129);
        CHECK.due("person(0, 5)", x.person(0, 5), BAD);
        CHECK.due("person(0, -1)", x.person(0, -1), BAD);
        CHECK.due("person(6, 0)", x.person(6, 0), BAD);
        CHECK.due("person(-1, 0)", x.person(-1, 0), BAD);
        CHECK.due("asked() stays", x.asked(), 129);
    }

    private static void mark() {
        PaperWalls x = Streets.of(Streets.SIX);
        CHECK.due("a loud one", x.mark(0, 1), 4);
        CHECK.due("a singer is loud", x.mark(4, 1), 5);
        CHECK.due("a whisperer", x.mark(1, 2), 2);
        CHECK.due("a listener whispers", x.mark(2, 2), 1);
        CHECK.due("a deaf one", x.mark(3, 3), 1);
        CHECK.due("a singer", x.mark(4, 4), 8);
        CHECK.due("a listener", x.mark(2, 5), 1);
        CHECK.due("asked() stays", x.asked(), 0);
        x.wall(0, 10);
        CHECK.due("a song held back", x.mark(4, 4), 0);
        x.wall(0, 12);
        CHECK.due("no noise below 0", x.mark(4, 4), 0);
        x.move(4, 0);
        CHECK.due("a song in room 0", x.mark(4, 4), 10);
        PaperWalls first = Streets.of("p2 w0 d1 i1 l1 o1");
        CHECK.due("the first one, by 0", first.mark(2, 5), 1);
        CHECK.due("loud ones for a deaf one", first.mark(1, 3), 2);
        first.move(1, 0);
        first.move(3, 0);
        CHECK.due("8 less 0", first.mark(1, 3), 1);
        PaperWalls loud = Streets.of("p2 s0 d1");
        CHECK.due("the first one, loud", loud.mark(1, 3), 1);
    }

    private static void markRefused() {
        PaperWalls x = Streets.of(Streets.SIX);
        CHECK.dueFinding("one of kind 0 as loud", x, x.mark(5, 1), UNLIKE);
        CHECK.dueFinding("a loud one as singer", x, x.mark(0, 4), UNLIKE);
        CHECK.dueFinding("a whisperer as listener", x, x.mark(1, 5), UNLIKE);
        CHECK.dueFinding("a singer as whisperer", x, x.mark(4, 2), UNLIKE);
        CHECK.dueFinding("a listener as loud", x, x.mark(2, 1), UNLIKE);
        CHECK.dueFinding("a deaf one as listener", x, x.mark(3, 5), UNLIKE);
        CHECK.dueFinding("a loud one as deaf", x, x.mark(0, 3), UNLIKE);
        CHECK.due("kind 0", x.mark(5, 0), BAD);
        CHECK.due("kind 6", x.mark(0, 6), BAD);
        CHECK.due("kind -1", x.mark(0, -1), BAD);
        CHECK.due("nobody", x.mark(6, 1), BAD);
        CHECK.due("nobody, too", x.mark(-1, 1), BAD);
    }

    private static void wall() {
        PaperWalls x = Streets.of(Streets.SIX);
        CHECK.due("wall(0, 20)", x.wall(0, 20), 2);
        CHECK.due("wall(1, 1)", x.wall(1, 1), 3);
        CHECK.dueTold("through both", x, x.hears(3, 0), 0, -13);
        CHECK.due("wall(0, 0)", x.wall(0, 0), 20);
        CHECK.dueTold("through one", x, x.hears(3, 0), 1, 7);
        CHECK.due("wall(2, 0)", x.wall(2, 0), BAD);
        CHECK.due("wall(-1, 0)", x.wall(-1, 0), BAD);
        CHECK.due("wall(0, 21)", x.wall(0, 21), BAD);
        CHECK.due("wall(0, -1)", x.wall(0, -1), BAD);
        CHECK.due("stays", x.wall(0, 3), 0);
    }

    private static void move() {
        PaperWalls x = Streets.of(Streets.SIX);
        CHECK.due("move(0, 2)", x.move(0, 2), 0);
        CHECK.dueTold("heard there", x, x.hears(3, 0), 1, 8);
        CHECK.due("move(0, 1)", x.move(0, 1), 2);
        CHECK.due("move(0, 1) again", x.move(0, 1), 1);
        CHECK.due("move(0, 3)", x.move(0, 3), BAD);
        CHECK.due("move(0, -1)", x.move(0, -1), BAD);
        CHECK.due("move(6, 0)", x.move(6, 0), BAD);
        CHECK.due("move(-1, 0)", x.move(-1, 0), BAD);
    }

    private static void hears() {
        PaperWalls x = Streets.of(Streets.SIX);
        CHECK.dueTold("in the same room", x, x.hears(5, 0), 1, 8);
        CHECK.dueTold("too low for a deaf one", x, x.hears(3, 0), 0, 3);
        CHECK.dueTold("5 for a deaf one", x, x.hears(3, 4), 1, 5);
        CHECK.dueTold("0 for a listener", x, x.hears(2, 1), 1, 0);
        CHECK.dueTold("0 for a singer", x, x.hears(4, 1), 0, 0);
        CHECK.dueTold("below 0", x, x.hears(3, 2), 0, -1);
        CHECK.dueTold("through one wall on", x, x.hears(4, 5), 1, 3);
        CHECK.dueTold("through one wall back", x, x.hears(5, 4), 1, 6);
        x.wall(1, 2);
        CHECK.dueTold("4 for a deaf one", x, x.hears(3, 0), 1, 4);
        x.wall(0, 4);
        CHECK.dueTold("1 for a singer", x, x.hears(4, 5), 1, 1);
        CHECK.dueTold("-2 for a listener", x, x.hears(2, 1), 0, -2);
        CHECK.due("oneself", x.hears(0, 0), BAD);
        CHECK.due("hears(6, 0)", x.hears(6, 0), BAD);
        CHECK.due("hears(0, 6)", x.hears(0, 6), BAD);
        CHECK.due("hears(-1, 0)", x.hears(-1, 0), BAD);
        CHECK.due("hears(0, -1)", x.hears(0, -1), BAD);
    }

    private static void heard() {
        PaperWalls x = Streets.of(Streets.SIX);
        CHECK.due("heard(0, 0)", x.heard(0, 0), 54);
        CHECK.due("heard(1, 0)", x.heard(1, 0), 37);
        CHECK.due("heard(4, 0)", x.heard(4, 0), 47);
        CHECK.due("heard(0, o)", x.heard(0, 32), 22);
        CHECK.due("heard(1, o)", x.heard(1, 32), 0);
        CHECK.due("that one sings", x.heard(0, 1), BAD);
        CHECK.due("that one sings, too", x.heard(5, 33), BAD);
        CHECK.due("no such bits", x.heard(0, 64), BAD);
        CHECK.due("negative bits", x.heard(0, -2), BAD);
        CHECK.due("heard(6, 0)", x.heard(6, 0), BAD);
        CHECK.due("heard(-1, 0)", x.heard(-1, 0), BAD);
        CHECK.due("heard(33, 0)", x.heard(33, 0), BAD);
    }

    private static void heardThroughSongs() {
        PaperWalls alike = Streets.of("p0 l0 l0 i1 o1 d0");
        CHECK.due("as much as the noise, for a listener alone", alike.heard(0, 2), 4);
        CHECK.due("above the noise", alike.heard(0, 8), 22);
        CHECK.due("the most of two songs", alike.heard(0, 10), 4);
        PaperWalls song = Streets.of("p3 o0 s1 o0 i0");
        CHECK.due("a singer sings by more than is spoken", song.heard(0, 2), 0);
        CHECK.due("who sings hears nobody", song.heard(1, 12), 0);
        PaperWalls deaf = Streets.of("p1 l0 d1 o1 w1");
        CHECK.due("a deaf one above the noise", deaf.heard(0, 4), 10);
    }

    private static void noise() {
        PaperWalls x = Streets.of(Streets.SIX);
        CHECK.due("no songs", x.noise(0, 0), 0);
        CHECK.due("a singer, one room on", x.noise(0, 16), 8);
        CHECK.due("a singer, in the room", x.noise(1, 16), 10);
        CHECK.due("a singer, one room back", x.noise(2, 16), 7);
        CHECK.due("held back", x.noise(2, 2), 0);
        CHECK.due("the most of two", x.noise(0, 48), 8);
        CHECK.due("the most of all", x.noise(2, 63), 7);
        CHECK.due("a loud one sings as it speaks", x.noise(0, 1), 8);
        CHECK.due("noise(3, 0)", x.noise(3, 0), BAD);
        CHECK.due("noise(-1, 0)", x.noise(-1, 0), BAD);
        CHECK.due("noise(0, 64)", x.noise(0, 64), BAD);
        CHECK.due("noise(0, -1)", x.noise(0, -1), BAD);
        CHECK.due("noise without people", Streets.of("p1").noise(1, 0), 0);
    }

    private static void hush() {
        PaperWalls x = Streets.of("p0 o0 l0 w0 o0");
        CHECK.dueTold("the least of two ways", x, x.hush(0), 1, 2);
        CHECK.dueTold("all the others", x, x.hush(1), 3, 13);
        CHECK.dueTold("one covers a whisperer", x, x.hush(2), 1, 1);
        CHECK.due("hush(4)", x.hush(4), BAD);
        CHECK.due("hush(-1)", x.hush(-1), BAD);
        PaperWalls fewer = Streets.of("p0 o0 w0 w0 l0");
        CHECK.dueTold("fewer ahead of less", fewer, fewer.hush(0), 1, 8);
        PaperWalls alone = Streets.of("p1 o0");
        alone.person(0, 2);
        CHECK.dueTold("alone", alone, alone.hush(0), 0, 0);
        PaperWalls far = Streets.of("p9 o0 d1");
        CHECK.dueTold("too far", far, far.hush(0), 0, 0);
    }
}
