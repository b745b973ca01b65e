/** Promises 1 to 7, and rows among the terms: a test for each sentence that has an edge. */
public final class RowEdgesTest {
    private static final int BAD = PaperWalls.BAD;
    private static final int NOTHING = 1, BEYOND = 2, NOUGHT = 4, SIZE = 5;
    private static final int LEAST = Integer.MIN_VALUE, GREATEST = Integer.MAX_VALUE;
    private static final Check CHECK = new Check("RowEdgesTest");

    public static void main(String[] args) {
        sixRows();
        missingAtFirst();
        nothingYet();
        sizes();
        tooManyInts();
        fewerThanNone();
        rowAnew();
        firstAndLastPlace();
        ofAnySize();
        places();
        placesOfNone();
        tear();
        copyAllAndNone();
        copyWithinItself();
        copyNotSoMany();
        copyNone();
        copyOrder();
        meanIsCut();
        meanOfOne();
        meanWrapsNot();
        meanOfNone();
        CHECK.end();
    }

    private static void sixRows() {
        CHECK.by(0, "ROWS 0 .. 5 are rows of 0 to 40 ints");
        PaperWalls x = new PaperWalls();
        for (int r = 0; r < 6; r++) {
            CHECK.due("row(" + r + ", 40)", x.row(r, 40), 40);
            CHECK.due("lay(" + r + ", 39, ..)", x.lay(r, 39, r + 1), 1);
        }
        for (int r = 0; r < 6; r++) {
            CHECK.dueTold("at(" + r + ", 39)", x, x.at(r, 39), 1, r + 1);
        }
        CHECK.due("six rows", x.count(6), 6);
        CHECK.due("a row below", x.row(-1, 1), BAD);
        CHECK.due("a seventh one", x.row(6, 1), BAD);
    }

    private static void missingAtFirst() {
        CHECK.by(0, "or missing (at first).");
        PaperWalls x = new PaperWalls();
        for (int r = 0; r < 6; r++) {
            CHECK.dueFinding("at(" + r + ", 0)", x, x.at(r, 0), NOTHING);
            CHECK.dueFinding("tear(" + r + ")", x, x.tear(r), NOTHING);
        }
        for (int t = 0; t < 4; t++) {
            CHECK.dueFinding("put(" + t + ", 0, 1)", x, x.put(t, 0, 1), NOTHING);
        }
    }

    private static void nothingYet() {
        CHECK.by(1, "No ROWS, TEXTS, PEOPLE, WALLS.");
        PaperWalls x = new PaperWalls();
        int[] things = {0, 1, 6, 7};
        for (int what : things) {
            CHECK.due("count(" + what + ")", x.count(what), 0);
        }
        CHECK.due("nobody", x.person(0, 0), BAD);
        CHECK.due("no wall", x.wall(0, 0), BAD);
    }

    private static void sizes() {
        CHECK.by(2, "A ROW is there with n ints 0: n.");
        PaperWalls x = new PaperWalls();
        int[] sizes = {0, 1, 2, 39, 40};
        for (int n : sizes) {
            CHECK.due("row(3, " + n + ")", x.row(3, n), n);
            CHECK.dueRow("ints 0", x, 3, new int[n]);
            CHECK.due("it is there", x.count(6), 1);
        }
    }

    private static void tooManyInts() {
        CHECK.by(2, "BAD: also n above 40");
        PaperWalls x = new PaperWalls();
        CHECK.due("row(0, 41)", x.row(0, 41), BAD);
        CHECK.due("row(0, greatest)", x.row(0, GREATEST), BAD);
        CHECK.dueFinding("none is there", x, x.at(0, 0), NOTHING);
        CHECK.due("row(0, 40)", x.row(0, 40), 40);
        CHECK.due("row(0, 41) again", x.row(0, 41), BAD);
        CHECK.dueTold("40 are there", x, x.at(0, 39), 1, 0);
    }

    private static void fewerThanNone() {
        CHECK.by(2, "SIZE: below 0.");
        PaperWalls x = new PaperWalls();
        CHECK.dueFinding("row(0, -1)", x, x.row(0, -1), SIZE);
        CHECK.dueFinding("row(0, least)", x, x.row(0, LEAST), SIZE);
        CHECK.due("none is there", x.count(6), 0);
    }

    private static void rowAnew() {
        CHECK.by(2, "A ROW is there with n ints 0");
        PaperWalls x = new PaperWalls();
        Streets.fill(x, 0, 1, 2, 3);
        Streets.fill(x, 1, 4, 5);
        CHECK.due("a longer one", x.row(0, 5), 5);
        CHECK.dueRow("ints 0", x, 0, 0, 0, 0, 0, 0);
        CHECK.due("an empty one", x.row(1, 0), 0);
        CHECK.due("and a longer one again", x.row(1, 2), 2);
        CHECK.dueRow("ints 0", x, 1, 0, 0);
    }

    private static void firstAndLastPlace() {
        CHECK.by(3, "Place i of a ROW is v: what it was, told by asked(): 1.");
        PaperWalls x = new PaperWalls();
        x.row(0, 3);
        CHECK.dueTold("the first", x, x.lay(0, 0, 7), 1, 0);
        CHECK.dueTold("the last", x, x.lay(0, 2, 9), 1, 0);
        CHECK.dueTold("the first again", x, x.lay(0, 0, 7), 1, 7);
        CHECK.dueTold("the last again", x, x.lay(0, 2, 8), 1, 9);
        CHECK.dueRow("both", x, 0, 7, 0, 8);
        CHECK.by(3, "BAD; NOTHING; BEYOND.");
        CHECK.dueFinding("ahead of the first", x, x.lay(0, -1, 1), BEYOND);
        CHECK.dueFinding("behind the last", x, x.lay(0, 3, 1), BEYOND);
        CHECK.dueFinding("of a missing one", x, x.lay(1, 0, 1), NOTHING);
        CHECK.due("of none", x.lay(6, 0, 1), BAD);
        CHECK.dueRow("as it was", x, 0, 7, 0, 8);
    }

    private static void ofAnySize() {
        CHECK.by(3, "Place i of a ROW is v");
        PaperWalls x = new PaperWalls();
        x.row(0, 1);
        CHECK.dueTold("the least", x, x.lay(0, 0, LEAST), 1, 0);
        CHECK.dueTold("the greatest", x, x.lay(0, 0, GREATEST), 1, LEAST);
        CHECK.dueTold("-1", x, x.lay(0, 0, -1), 1, GREATEST);
        CHECK.dueTold("told", x, x.at(0, 0), 1, -1);
    }

    private static void places() {
        CHECK.by(4, "Place i of a ROW, told by asked(): 1.");
        PaperWalls x = new PaperWalls();
        Streets.fill(x, 2, 5, 6, -7);
        CHECK.dueTold("the first", x, x.at(2, 0), 1, 5);
        CHECK.dueTold("the last", x, x.at(2, 2), 1, -7);
        CHECK.by(4, "BAD; NOTHING; BEYOND.");
        CHECK.dueFinding("ahead of the first", x, x.at(2, -1), BEYOND);
        CHECK.dueFinding("behind the last", x, x.at(2, 3), BEYOND);
        CHECK.dueFinding("far behind", x, x.at(2, 40), BEYOND);
        CHECK.dueFinding("of a missing one", x, x.at(1, 0), NOTHING);
        CHECK.due("of none", x.at(6, 0), BAD);
    }

    private static void placesOfNone() {
        CHECK.by(4, "BEYOND.");
        PaperWalls x = new PaperWalls();
        x.row(0, 0);
        CHECK.dueFinding("no place to tell", x, x.at(0, 0), BEYOND);
        CHECK.dueFinding("no place to lay", x, x.lay(0, 0, 1), BEYOND);
        x.row(1, 40);
        x.row(1, 39);
        CHECK.dueFinding("a place that was", x, x.at(1, 39), BEYOND);
    }

    private static void tear() {
        CHECK.by(5, "A ROW is missing: 1. BAD; NOTHING.");
        PaperWalls x = new PaperWalls();
        x.row(0, 1);
        x.row(5, 40);
        CHECK.due("the first", x.tear(0), 1);
        CHECK.dueFinding("it is missing", x, x.at(0, 0), NOTHING);
        CHECK.due("the other one is there", x.count(6), 1);
        CHECK.due("the last", x.tear(5), 1);
        CHECK.dueFinding("it is missing", x, x.at(5, 39), NOTHING);
        CHECK.dueFinding("again", x, x.tear(5), NOTHING);
        CHECK.due("below", x.tear(-1), BAD);
        CHECK.due("above", x.tear(6), BAD);
        x.row(2, 0);
        CHECK.due("an empty one", x.tear(2), 1);
        x.row(5, 2);
        CHECK.dueRow("there again, with ints 0", x, 5, 0, 0);
    }

    private static void copyAllAndNone() {
        CHECK.by(6, "n places of a ROW, from one on, come to those of another one (perhaps itself) from one on");
        PaperWalls x = new PaperWalls();
        Streets.fill(x, 0, 1, 2, 3);
        Streets.fill(x, 1, 4, 5, 6, 7);
        CHECK.due("none", x.copy(0, 0, 1, 0, 0), 1);
        CHECK.dueRow("none", x, 1, 4, 5, 6, 7);
        CHECK.due("one, the last to the last", x.copy(0, 2, 1, 3, 1), 1);
        CHECK.dueRow("one", x, 1, 4, 5, 6, 3);
        CHECK.due("all", x.copy(0, 0, 1, 0, 3), 1);
        CHECK.dueRow("all", x, 1, 1, 2, 3, 3);
        CHECK.due("all to the end", x.copy(0, 0, 1, 1, 3), 1);
        CHECK.dueRow("all to the end", x, 1, 1, 1, 2, 3);
        CHECK.dueRow("taken from", x, 0, 1, 2, 3);
        x.row(2, 40);
        x.row(3, 40);
        x.lay(2, 39, 8);
        CHECK.due("40", x.copy(2, 0, 3, 0, 40), 1);
        CHECK.dueTold("the 40th", x, x.at(3, 39), 1, 8);
    }

    private static void copyWithinItself() {
        CHECK.by(6, "as if taken ahead: 1.");
        PaperWalls x = new PaperWalls();
        Streets.fill(x, 0, 1, 2, 3, 4, 5);
        CHECK.due("one place on", x.copy(0, 0, 0, 1, 4), 1);
        CHECK.dueRow("one place on", x, 0, 1, 1, 2, 3, 4);
        CHECK.due("one place back", x.copy(0, 1, 0, 0, 4), 1);
        CHECK.dueRow("one place back", x, 0, 1, 2, 3, 4, 4);
        CHECK.due("to where it is", x.copy(0, 0, 0, 0, 5), 1);
        CHECK.dueRow("to where it is", x, 0, 1, 2, 3, 4, 4);
    }

    private static void copyNotSoMany() {
        CHECK.by(6, "BEYOND: not so many there");
        PaperWalls x = new PaperWalls();
        Streets.fill(x, 0, 1, 2, 3);
        Streets.fill(x, 1, 4, 5, 6, 7);
        CHECK.dueFinding("one too many to take", x, x.copy(0, 0, 1, 0, 4), BEYOND);
        CHECK.dueFinding("from the last on", x, x.copy(0, 2, 1, 0, 2), BEYOND);
        CHECK.dueFinding("one too many to lay", x, x.copy(1, 0, 0, 0, 4), BEYOND);
        CHECK.dueFinding("to the last on", x, x.copy(1, 0, 0, 2, 2), BEYOND);
        CHECK.dueFinding("i and n wrap around", x, x.copy(0, 1, 1, 0, GREATEST), BEYOND);
        CHECK.dueFinding("j and n wrap around", x, x.copy(0, 0, 1, GREATEST, 1), BEYOND);
        CHECK.dueRow("as it was", x, 0, 1, 2, 3);
        CHECK.dueRow("as it was", x, 1, 4, 5, 6, 7);
    }

    private static void copyNone() {
        CHECK.by(6, "(with n 0, too, if i or j is below 0 or above the size)");
        PaperWalls x = new PaperWalls();
        x.row(0, 3);
        x.row(1, 4);
        x.row(2, 0);
        CHECK.due("i and j the sizes", x.copy(0, 3, 1, 4, 0), 1);
        CHECK.due("of an empty one", x.copy(2, 0, 2, 0, 0), 1);
        CHECK.dueFinding("i below 0", x, x.copy(0, -1, 1, 0, 0), BEYOND);
        CHECK.dueFinding("j below 0", x, x.copy(0, 0, 1, -1, 0), BEYOND);
        CHECK.dueFinding("i above the size", x, x.copy(0, 4, 1, 0, 0), BEYOND);
        CHECK.dueFinding("j above the size", x, x.copy(0, 0, 1, 5, 0), BEYOND);
        CHECK.dueFinding("i above none", x, x.copy(2, 1, 1, 0, 0), BEYOND);
        CHECK.dueFinding("j above none", x, x.copy(1, 0, 2, 1, 0), BEYOND);
    }

    private static void copyOrder() {
        CHECK.by(6, "BAD; SIZE: n below 0; NOTHING: either;");
        PaperWalls x = new PaperWalls();
        x.row(0, 3);
        CHECK.due("none to take from", x.copy(6, 0, 0, 0, 1), BAD);
        CHECK.due("none to come to", x.copy(0, 0, -1, 0, 1), BAD);
        CHECK.dueFinding("n -1", x, x.copy(0, 0, 0, 0, -1), SIZE);
        CHECK.dueFinding("n least", x, x.copy(0, 0, 0, 0, LEAST), SIZE);
        CHECK.dueFinding("the one missing", x, x.copy(1, 0, 0, 0, 1), NOTHING);
        CHECK.dueFinding("the other one missing", x, x.copy(0, 0, 1, 0, 1), NOTHING);
        CHECK.by(6, "(In this order.)");
        CHECK.due("all four", x.copy(6, 9, 1, 9, -1), BAD);
        CHECK.dueFinding("the last three", x, x.copy(0, 9, 1, 9, -1), SIZE);
        CHECK.dueFinding("the last two", x, x.copy(0, 9, 1, 9, 1), NOTHING);
        CHECK.dueFinding("the last", x, x.copy(0, 9, 0, 9, 1), BEYOND);
    }

    private static void dueMean(int want, int... ints) {
        PaperWalls x = new PaperWalls();
        Streets.fill(x, 0, ints);
        CHECK.dueTold("mean(0) of " + ints.length, x, x.mean(0), 1, want);
    }

    private static void meanIsCut() {
        CHECK.by(7, "The mean of a ROW's ints, cut, told by asked(): 1.");
        dueMean(1, 1, 2);
        dueMean(1, 1, 2, 2);
        dueMean(-1, -1, -2);
        dueMean(0, -1, 0);
        dueMean(0, 1, -2);
        dueMean(0, 0, 0, 0);
        dueMean(2, 1, 2, 3);
    }

    private static void meanOfOne() {
        CHECK.by(7, "The mean of a ROW's ints");
        dueMean(-9, -9);
        dueMean(LEAST, LEAST);
        dueMean(GREATEST, GREATEST);
    }

    private static void meanWrapsNot() {
        CHECK.by(7, "The mean of a ROW's ints, cut");
        int[] greatest = new int[40];
        int[] least = new int[40];
        java.util.Arrays.fill(greatest, GREATEST);
        java.util.Arrays.fill(least, LEAST);
        dueMean(GREATEST, greatest);
        dueMean(LEAST, least);
        dueMean(0, GREATEST, LEAST);
        dueMean(GREATEST - 1, GREATEST, GREATEST - 1, GREATEST - 1);
    }

    private static void meanOfNone() {
        CHECK.by(7, "BAD; NOTHING; NOUGHT.");
        PaperWalls x = new PaperWalls();
        x.row(0, 0);
        CHECK.dueFinding("of none", x, x.mean(0), NOUGHT);
        CHECK.dueFinding("of a missing one", x, x.mean(1), NOTHING);
        CHECK.due("below", x.mean(-1), BAD);
        CHECK.due("above", x.mean(6), BAD);
        CHECK.due("nothing was told", x.asked(), 0);
    }
}
