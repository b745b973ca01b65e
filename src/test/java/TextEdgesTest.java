/** Promises 8 to 11, and texts and streets among the terms: a test for each sentence that has an edge. */
public final class TextEdgesTest {
    private static final int BAD = PaperWalls.BAD, NONE = PaperWalls.NONE, STATE = PaperWalls.STATE;
    private static final int NOTHING = 1, BEYOND = 2, SIZE = 5;
    private static final int LEAST = Integer.MIN_VALUE, GREATEST = Integer.MAX_VALUE;
    private static final Check CHECK = new Check("TextEdgesTest");

    public static void main(String[] args) {
        fourTexts();
        sizes();
        tooManyBytes();
        fewerThanNone();
        textAnew();
        cutToAByte();
        wholeNumbersCut();
        places();
        blanks();
        blanksWithin();
        wallItem();
        howManyWalls();
        howManyPeople();
        peopleItems();
        roomsOfPeople();
        endTooEarly();
        blanksAlone();
        wholeText();
        asTheyCome();
        bytesBelowNone();
        fault();
        street();
        streetAnew();
        streetRefused();
        CHECK.end();
    }

    private static void fourTexts() {
        CHECK.by(0, "TEXTS 0 .. 3 rows of 0 to 80 bytes");
        PaperWalls x = new PaperWalls();
        for (int t = 0; t < 4; t++) {
            CHECK.due("text(" + t + ", 80)", x.text(t, 80), 80);
            CHECK.due("the last byte", x.put(t, 79, t), 1032);
        }
        for (int t = 0; t < 4; t++) {
            CHECK.due("the last byte of its own", x.put(t, 79, 0), 1000 + t);
        }
        CHECK.due("four texts", x.count(7), 4);
        CHECK.due("a text below", x.text(-1, 1), BAD);
        CHECK.due("a fifth one", x.text(4, 1), BAD);
    }

    private static void sizes() {
        CHECK.by(8, "A TEXT is there with n blanks: n.");
        PaperWalls x = new PaperWalls();
        int[] sizes = {0, 1, 79, 80};
        for (int n : sizes) {
            CHECK.due("text(2, " + n + ")", x.text(2, n), n);
            CHECK.due("it is there", x.count(7), 1);
            CHECK.due("blanks alone", x.fault(2), n);
            CHECK.dueFinding("behind the last", x, x.put(2, n, 0), BEYOND);
        }
        CHECK.due("the first", x.put(2, 0, 0), 1032);
        CHECK.due("the last", x.put(2, 79, 0), 1032);
    }

    private static void tooManyBytes() {
        CHECK.by(8, "BAD: also n above 80");
        PaperWalls x = new PaperWalls();
        CHECK.due("text(0, 81)", x.text(0, 81), BAD);
        CHECK.due("text(0, greatest)", x.text(0, GREATEST), BAD);
        CHECK.due("none is there", x.count(7), 0);
        CHECK.due("text(0, 80)", x.text(0, 80), 80);
    }

    private static void fewerThanNone() {
        CHECK.by(8, "SIZE: below 0.");
        PaperWalls x = new PaperWalls();
        CHECK.dueFinding("text(0, -1)", x, x.text(0, -1), SIZE);
        CHECK.dueFinding("text(0, least)", x, x.text(0, LEAST), SIZE);
        CHECK.due("none is there", x.count(7), 0);
    }

    private static void textAnew() {
        CHECK.by(8, "A TEXT is there with n blanks");
        PaperWalls x = new PaperWalls();
        Streets.write(x, 0, "p12");
        CHECK.due("a longer one", x.text(0, 5), 5);
        CHECK.due("a blank", x.put(0, 1, 1), 1032);
        CHECK.due("an empty one", x.text(0, 0), 0);
        CHECK.due("and a longer one again", x.text(0, 2), 2);
        CHECK.due("a blank again", x.put(0, 1, 1), 1032);
    }

    private static void cutToAByte() {
        CHECK.by(9, "Byte i of a TEXT is v, cut to a byte (-128 .. 127): what it was, and 1000 more.");
        PaperWalls x = new PaperWalls();
        x.text(0, 1);
        int[] laid = {0, 127, 128, 129, 255, 256, 257, -1, -128, -129, -256, 384, LEAST, GREATEST, 65535, 1000};
        int[] cut = {0, 127, -128, -127, -1, 0, 1, -1, -128, 127, 0, -128, 0, -1, -1, -24};
        int was = 32;
        for (int i = 0; i < laid.length; i++) {
            CHECK.due("put(0, 0, " + laid[i] + ")", x.put(0, 0, laid[i]), 1000 + was);
            was = cut[i];
        }
        CHECK.due("the last of these", x.put(0, 0, 0), 1000 + was);
    }

    private static void wholeNumbersCut() {
        CHECK.by(9, "cut to a byte (-128 .. 127)");
        PaperWalls x = new PaperWalls();
        x.text(0, 2);
        x.put(0, 0, 112 + 256);
        x.put(0, 1, 49 - 512);
        CHECK.due("p1, cut", x.street(0), 0);
        CHECK.due("a wall by it", x.count(1), 1);
    }

    private static void places() {
        CHECK.by(9, "BAD; NOTHING; BEYOND.");
        PaperWalls x = new PaperWalls();
        x.text(0, 3);
        CHECK.due("the first", x.put(0, 0, 5), 1032);
        CHECK.due("the last", x.put(0, 2, 6), 1032);
        CHECK.due("the first again", x.put(0, 0, 5), 1005);
        CHECK.due("the last again", x.put(0, 2, 6), 1006);
        CHECK.dueFinding("ahead of the first", x, x.put(0, -1, 7), BEYOND);
        CHECK.dueFinding("behind the last", x, x.put(0, 3, 7), BEYOND);
        CHECK.dueFinding("of a missing one", x, x.put(3, 0, 7), NOTHING);
        CHECK.due("of none", x.put(4, 0, 7), BAD);
        CHECK.due("the last once more", x.put(0, 2, 6), 1006);
    }

    /** Where a text can't go on, or NONE; a street by it comes to be just then. */
    private static void dueFault(String words, int want) {
        PaperWalls x = new PaperWalls();
        Streets.write(x, 3, words);
        CHECK.due("fault of '" + words + "'", x.fault(3), want);
        int street = x.street(3);
        CHECK.due("street of '" + words + "'", street < 0 ? street : NONE, want == NONE ? NONE : STATE);
        CHECK.due("people of '" + words + "'", x.count(0), Math.max(0, street));
    }

    private static void blanks() {
        CHECK.by(0, "blanks (32) ahead, between, behind as many as wanted, none within items.");
        dueFault("p1 o0 o1", NONE);
        dueFault(" p1 o0 o1", NONE);
        dueFault("    p1 o0 o1", NONE);
        dueFault("p1  o0     o1", NONE);
        dueFault("p1 o0 o1 ", NONE);
        dueFault("p1 o0 o1     ", NONE);
        dueFault("p1     ", NONE);
        dueFault("p1o0o1", NONE);
        dueFault("p1o0 o1", NONE);
        dueFault("p1 o0o1", NONE);
        dueFault("p1\to0", 2);
        dueFault("p1\no0", 2);
        dueFault("p1" + (char) 31 + "o0", 2);
        dueFault("p1!o0", 2);
        dueFault("p1" + (char) 160 + "o0", 2);
        dueFault("p1" + (char) 0, 2);
    }

    private static void blanksWithin() {
        CHECK.by(0, "none within items.");
        dueFault("p 1", 1);
        dueFault("p1 2", 3);
        dueFault("p1 o 0", 4);
        dueFault("p1 o0 l 1", 7);
    }

    private static void wallItem() {
        CHECK.by(0, "The first item is p (112) and 1 to 6 figures (0 .. 9)");
        dueFault("p0", NONE);
        dueFault("p9", NONE);
        dueFault("o1", 0);
        dueFault("q1", 0);
        dueFault("P1", 0);
        dueFault("1", 0);
        dueFault("  o1 p1", 2);
        dueFault("p/", 1);
        dueFault("p:", 1);
        dueFault("p1/", 2);
        dueFault("p1:", 2);
        dueFault("px", 1);
        dueFault("p-", 1);
        CHECK.by(0, "the LAYERS of WALLS 0, 1, ..");
        PaperWalls x = Streets.of("p90");
        CHECK.due("9 layers", x.wall(0, 1), 9);
        CHECK.due("no layers", x.wall(1, 1), 0);
    }

    private static void howManyWalls() {
        CHECK.by(0, "1 to 6 figures");
        dueFault("p", 1);
        dueFault("p ", 1);
        dueFault("p1", NONE);
        dueFault("p123456", NONE);
        CHECK.by(0, "a seventh figure of WALLS: its place");
        dueFault("p1234567", 7);
        dueFault("   p0000000", 10);
        dueFault("p12345678 x", 7);
        CHECK.by(0, "(so there is one ROOM more than WALLS)");
        PaperWalls one = Streets.of("p1");
        CHECK.due("a second room", one.noise(1, 0), 0);
        CHECK.due("no third room", one.noise(2, 0), BAD);
        PaperWalls six = Streets.of("p123456");
        CHECK.due("six walls", six.count(1), 6);
        CHECK.due("a seventh room", six.noise(6, 0), 0);
        CHECK.due("no eighth room", six.noise(7, 0), BAD);
    }

    private static void howManyPeople() {
        CHECK.by(0, "then PEOPLE 0, 1, .. (7 at most, none, too; as they come)");
        String six = "p1 o0 o0 o0 o0 o0 o0";
        dueFault("p1", NONE);
        dueFault("p1 o0", NONE);
        dueFault(six, NONE);
        dueFault(six + " o0", NONE);
        CHECK.by(0, "an eighth one: the letter;");
        dueFault(six + " o0 o1", 24);
        dueFault(six + " o0 o9", 24);
        dueFault(six + " o0 o", 24);
        dueFault(six + " o0 9", 24);
        dueFault(six + " o0    w1", 27);
        dueFault(six + " o0  ", NONE);
    }

    private static void peopleItems() {
        CHECK.by(0, "a letter, a ROOM (one figure)");
        String letters = "olwdsi";
        for (int c = 0; c < 256; c++) {
            boolean isLetter = letters.indexOf((char) c) >= 0;
            if (c != 32) {
                dueFault("p1 " + (char) c + "0", isLetter ? NONE : 3);
            }
        }
        CHECK.by(0, "A FAULT is the first place at which it can't go on so (a letter, a figure that is"
            + " none such: its place;");
        dueFault("p1 x", 3);
        dueFault("p1 o0 x1", 6);
        dueFault("p1 ox", 4);
        dueFault("p1 o/", 4);
        dueFault("p1 o:", 4);
        dueFault("p1 o-", 4);
        dueFault("p1 oo", 4);
        dueFault("p1 o0 1", 6);
        dueFault("p1 o00", 5);
        dueFault("p1 o01", 5);
        dueFault("p1 p1", 3);
    }

    private static void roomsOfPeople() {
        CHECK.by(0, "WALL i is between ROOMS i and i and 1");
        dueFault("p1 o0 o1", NONE);
        dueFault("p1 o2", 4);
        dueFault("p1 o9", 4);
        dueFault("p123456 o0 o6", NONE);
        dueFault("p123456 o7", 9);
        dueFault("p12345 o6", 8);
        dueFault("p12 o2 o3 o4", 8);
    }

    private static void endTooEarly() {
        CHECK.by(0, "the TEXT's size, if its end comes too early");
        dueFault("", 0);
        dueFault("p", 1);
        dueFault("   p", 4);
        dueFault("p1 o", 4);
        dueFault("p1 o0 l", 7);
        dueFault(" ".repeat(79) + "p", 80);
        dueFault(" ".repeat(76) + "p1 o", 80);
    }

    private static void blanksAlone() {
        CHECK.by(0, "or there are blanks alone)");
        dueFault(" ", 1);
        dueFault("  ", 2);
        dueFault(" ".repeat(80), 80);
    }

    private static void wholeText() {
        CHECK.by(0, "blanks (32) ahead, between, behind as many as wanted");
        dueFault(" ".repeat(78) + "p1", NONE);
        dueFault("p1" + " ".repeat(76) + "o1", NONE);
        dueFault("p1 o1" + " ".repeat(75), NONE);
        dueFault("p1" + " ".repeat(77) + "o", 80);
    }

    private static void asTheyCome() {
        CHECK.by(0, "KINDS of PEOPLE and letters: 0 ONE (o, 111), 1 LOUD (l, 108; a ONE), 2 WHISPERER (w, 119; a ONE),"
            + " 3 DEAF (d, 100; a ONE), 4 SINGER (s, 115; a LOUD), 5 LISTENER (i, 105; a WHISPERER).");
        PaperWalls x = Streets.of("p000000 i6 s5 d4 w3 l2 o1 i0");
        int[] kinds = {5, 4, 3, 2, 1, 0, 5};
        for (int one = 0; one < 7; one++) {
            CHECK.dueTold("kind of " + one, x, x.person(one, 0), 1, kinds[one]);
            CHECK.dueTold("room of " + one, x, x.person(one, 1), 1, 6 - one);
        }
        CHECK.due("no eighth one", x.person(7, 0), BAD);
    }

    private static void bytesBelowNone() {
        CHECK.by(0, "a letter, a figure that is none such: its place");
        dueFault((char) 240 + "1", 0);
        dueFault("p" + (char) 177, 1);
        dueFault("p1 " + (char) 239 + "0", 3);
        dueFault("p1 o" + (char) 176, 4);
    }

    private static void fault() {
        CHECK.by(10, "A FAULT of a TEXT; NONE: there is none. BAD; NOTHING.");
        PaperWalls x = Scenes.rich();
        CHECK.due("there is none", x.fault(0), NONE);
        CHECK.due("there is one", x.fault(1), 5);
        CHECK.due("at the end of none", x.fault(3), 0);
        CHECK.dueFinding("of a missing one", x, x.fault(2), NOTHING);
        CHECK.due("below", x.fault(-1), BAD);
        CHECK.due("above", x.fault(4), BAD);
        CHECK.due("it is no street by that", x.count(2), 3);
    }

    private static void street() {
        CHECK.by(11, "how many PEOPLE.");
        PaperWalls x = new PaperWalls();
        Streets.write(x, 0, "p1");
        Streets.write(x, 3, "p1 o0 o0 o0 o0 o0 o0 o0");
        CHECK.due("none", x.street(0), 0);
        CHECK.due("a wall", x.count(1), 1);
        CHECK.due("seven", x.street(3), 7);
        CHECK.due("seven are there", x.count(0), 7);
        CHECK.due("none again", x.street(0), 0);
        CHECK.due("nobody is there", x.count(0), 0);
        CHECK.by(0, "A STREET (without PEOPLE at first) is a TEXT");
        CHECK.due("nobody at first", new PaperWalls().count(0), 0);
    }

    private static void streetAnew() {
        CHECK.by(11, "A STREET by a TEXT (anew: no TALKS, nobody KNOWS anything, no HOURS; kept STREETS go)");
        PaperWalls x = Scenes.rich();
        Streets.write(x, 2, "p3 o0 o1 o1 o0 o0 o0 o0");
        CHECK.due("street(2)", x.street(2), 7);
        CHECK.due("no talks", x.count(2), 0);
        CHECK.due("no hours", x.count(3), 0);
        for (int thing = 0; thing < 8; thing++) {
            CHECK.due("nobody knows " + thing, x.know(thing), 0);
        }
        CHECK.due("none kept", x.count(8), 0);
        for (int k = 0; k < 3; k++) {
            CHECK.dueFinding("on(" + k + ")", x, x.on(k), NOTHING);
        }
        CHECK.due("told, but not of that", x.knowsThat(2, 0, 0), 0);
        CHECK.due("rows stay", x.count(6), 3);
        CHECK.due("texts stay", x.count(7), 4);
        CHECK.due("an hour anew", x.undo(1), BAD);
        CHECK.due("a talk anew", x.talk(0, 1, 0), 0);
        PaperWalls full = Scenes.full();
        CHECK.due("street(0), when all was full", full.street(0), 5);
        CHECK.due("a talk", full.talk(0, 1, 0), 0);
        full.comes(0, 0);
        CHECK.due("an hour", full.tell(0, 0), 3);
    }

    private static void streetRefused() {
        CHECK.by(11, "BAD; NOTHING; STATE: a FAULT.");
        PaperWalls x = Scenes.rich();
        CHECK.due("below", x.street(-1), BAD);
        CHECK.due("above", x.street(4), BAD);
        CHECK.dueFinding("of a missing one", x, x.street(2), NOTHING);
        CHECK.due("of one with a fault", x.street(1), STATE);
        CHECK.due("of an empty one", x.street(3), STATE);
        CHECK.due("the street stays", x.count(2), 3);
        CHECK.due("the hours stay", x.count(3), 3);
        CHECK.due("the kept ones stay", x.count(8), 2);
        CHECK.by(11, "(STATE behind NOTHING.)");
        CHECK.dueFinding("a missing one has no street either", x, x.street(2), NOTHING);
    }
}
