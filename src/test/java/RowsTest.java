/** Promises 1 to 7: a new object, rows. */
public final class RowsTest {
    private static final int BAD = PaperWalls.BAD, NONE = PaperWalls.NONE, STATE = PaperWalls.STATE;
    private static final int NOTHING = 1, BEYOND = 2, NOUGHT = 4, SIZE = 5;
    private static final Check CHECK = new Check("RowsTest");

    public static void main(String[] args) {
        newObject();
        row();
        layAndAt();
        tear();
        copy();
        copyRefused();
        mean();
        CHECK.end();
    }

    private static void newObject() {
        PaperWalls x = new PaperWalls();
        for (int what = 0; what <= 8; what++) {
            CHECK.due("new: count(" + what + ")", x.count(what), 0);
        }
        for (int f = 1; f <= 5; f++) {
            CHECK.due("new: findings(" + f + ")", x.findings(f), 0);
        }
        CHECK.due("new: asked()", x.asked(), 0);
        CHECK.due("new: finding()", x.finding(), 0);
        CHECK.due("new: upper()", x.upper(), 0);
        CHECK.due("new: lower()", x.lower(), 1);
        CHECK.due("new: person", x.person(0, 0), BAD);
        CHECK.due("new: noise", x.noise(0, 0), BAD);
        CHECK.due("new: rent", x.rent(0), BAD);
        CHECK.due("new: wall", x.wall(0, 0), BAD);
        CHECK.due("new: rooms", x.rooms(0), STATE);
        CHECK.due("new: keep", x.keep(0), STATE);
        CHECK.due("new: off", x.off(0), 0);
        CHECK.due("new: undo", x.undo(0), 0);
        CHECK.due("new: beside", x.beside(0), 1);
        CHECK.due("new: turns", x.turns(), 0);
        CHECK.due("new: most", x.most(), 0);
        CHECK.due("new: safes", x.safes(), 0);
        CHECK.due("new: swap", x.swap(), NONE);
        CHECK.due("new: know", x.know(7), 0);
        CHECK.due("new: spread", x.spread(0, 20), 0);
        CHECK.due("new: leak", x.leak(0), 0);
        CHECK.due("new: leaks", x.leaks(0), 0);
        CHECK.due("new: leak(1)", x.leak(1), BAD);
        CHECK.dueFinding("new: nights", x, x.nights(0, 1, 1), BEYOND);
        CHECK.dueFinding("new: on", x, x.on(0), NOTHING);
        for (int r = 0; r < 6; r++) {
            CHECK.dueFinding("new: at", x, x.at(r, 0), NOTHING);
        }
        for (int t = 0; t < 4; t++) {
            CHECK.dueFinding("new: fault", x, x.fault(t), NOTHING);
        }
    }

    private static void row() {
        PaperWalls x = new PaperWalls();
        CHECK.due("row(0, 3)", x.row(0, 3), 3);
        CHECK.due("three noughts", Streets.isRow(x, 0, 0, 0, 0) ? 1 : 0, 1);
        CHECK.due("row(5, 40)", x.row(5, 40), 40);
        CHECK.dueTold("at(5, 39)", x, x.at(5, 39), 1, 0);
        CHECK.due("row(1, 0)", x.row(1, 0), 0);
        CHECK.due("count(6)", x.count(6), 3);
        CHECK.due("row(0, 41)", x.row(0, 41), BAD);
        CHECK.due("row(-1, 1)", x.row(-1, 1), BAD);
        CHECK.due("row(6, 1)", x.row(6, 1), BAD);
        CHECK.due("row(6, -1)", x.row(6, -1), BAD);
        CHECK.dueFinding("row(0, -1)", x, x.row(0, -1), SIZE);
        x.lay(0, 0, 8);
        x.lay(0, 1, 7);
        CHECK.due("row anew", x.row(0, 2), 2);
        CHECK.due("noughts anew", Streets.isRow(x, 0, 0, 0) ? 1 : 0, 1);
    }

    private static void layAndAt() {
        PaperWalls x = new PaperWalls();
        x.row(0, 3);
        CHECK.dueTold("lay(0, 1, 7)", x, x.lay(0, 1, 7), 1, 0);
        CHECK.dueTold("lay(0, 1, -9)", x, x.lay(0, 1, -9), 1, 7);
        CHECK.dueTold("at(0, 1)", x, x.at(0, 1), 1, -9);
        CHECK.dueFinding("lay(0, 3, 1)", x, x.lay(0, 3, 1), BEYOND);
        CHECK.dueFinding("lay(1, -1, 1)", x, x.lay(1, -1, 1), NOTHING);
        CHECK.dueFinding("lay(0, -1, 1)", x, x.lay(0, -1, 1), BEYOND);
        CHECK.due("lay(6, 0, 1)", x.lay(6, 0, 1), BAD);
        CHECK.due("lay(-1, 0, 1)", x.lay(-1, 0, 1), BAD);
        CHECK.dueFinding("at(1, 9)", x, x.at(1, 9), NOTHING);
        CHECK.dueFinding("at(0, 3)", x, x.at(0, 3), BEYOND);
        CHECK.dueFinding("at(0, -1)", x, x.at(0, -1), BEYOND);
        CHECK.due("at(6, 0)", x.at(6, 0), BAD);
        CHECK.due("at(-1, 0)", x.at(-1, 0), BAD);
        CHECK.due("asked() stays", x.asked(), -9);
        CHECK.due("others stay", Streets.isRow(x, 0, 0, -9, 0) ? 1 : 0, 1);
    }

    private static void tear() {
        PaperWalls x = new PaperWalls();
        x.row(2, 1);
        CHECK.due("tear(2)", x.tear(2), 1);
        CHECK.due("count(6)", x.count(6), 0);
        CHECK.dueFinding("tear again", x, x.tear(2), NOTHING);
        CHECK.due("tear(6)", x.tear(6), BAD);
        CHECK.due("tear(-1)", x.tear(-1), BAD);
        x.row(2, 0);
        CHECK.due("tear an empty one", x.tear(2), 1);
    }

    private static void copy() {
        PaperWalls x = new PaperWalls();
        Streets.fill(x, 0, 1, 2, 3, 4, 5);
        Streets.fill(x, 1, 7, 8, 9);
        CHECK.due("copy on", x.copy(0, 0, 0, 1, 4), 1);
        CHECK.due("as if taken ahead", Streets.isRow(x, 0, 1, 1, 2, 3, 4) ? 1 : 0, 1);
        CHECK.due("copy back", x.copy(0, 2, 0, 0, 3), 1);
        CHECK.due("as if taken ahead, too", Streets.isRow(x, 0, 2, 3, 4, 3, 4) ? 1 : 0, 1);
        CHECK.due("copy over", x.copy(1, 1, 0, 3, 2), 1);
        CHECK.due("two places", Streets.isRow(x, 0, 2, 3, 4, 8, 9) ? 1 : 0, 1);
        CHECK.due("the one taken from stays", Streets.isRow(x, 1, 7, 8, 9) ? 1 : 0, 1);
        CHECK.due("none, at the ends", x.copy(0, 5, 1, 3, 0), 1);
        CHECK.due("all", x.copy(1, 0, 0, 0, 3), 1);
    }

    private static void copyRefused() {
        PaperWalls x = new PaperWalls();
        Streets.fill(x, 0, 1, 2, 3, 4, 5);
        Streets.fill(x, 1, 7, 8, 9);
        CHECK.due("copy(6, ..)", x.copy(6, 0, 0, 0, -1), BAD);
        CHECK.due("copy(.., 6, ..)", x.copy(0, 0, 6, 0, -1), BAD);
        CHECK.due("copy(-1, ..)", x.copy(-1, 0, 0, 0, 0), BAD);
        CHECK.due("copy(.., -1, ..)", x.copy(0, 0, -1, 0, 0), BAD);
        CHECK.dueFinding("SIZE ahead of NOTHING", x, x.copy(0, 0, 2, 0, -1), SIZE);
        CHECK.dueFinding("NOTHING ahead of BEYOND", x, x.copy(0, 9, 2, 9, 1), NOTHING);
        CHECK.dueFinding("NOTHING to take from", x, x.copy(2, 0, 0, 0, 1), NOTHING);
        CHECK.dueFinding("too many to take", x, x.copy(1, 1, 0, 0, 3), BEYOND);
        CHECK.dueFinding("too many to lay", x, x.copy(0, 0, 1, 1, 3), BEYOND);
        CHECK.dueFinding("none from above", x, x.copy(0, 6, 1, 0, 0), BEYOND);
        CHECK.dueFinding("none to above", x, x.copy(0, 0, 1, 4, 0), BEYOND);
        CHECK.dueFinding("none from below", x, x.copy(0, -1, 1, 0, 0), BEYOND);
        CHECK.dueFinding("none to below", x, x.copy(0, 0, 1, -1, 0), BEYOND);
        CHECK.dueFinding("far", x, x.copy(0, Integer.MAX_VALUE, 1, 0, 1), BEYOND);
        CHECK.dueFinding("many", x, x.copy(0, 1, 1, 1, Integer.MAX_VALUE), BEYOND);
        CHECK.due("unchanged", Streets.isRow(x, 0, 1, 2, 3, 4, 5) && Streets.isRow(x, 1, 7, 8, 9) ? 1 : 0, 1);
    }

    private static void mean() {
        PaperWalls x = new PaperWalls();
        Streets.fill(x, 0, 3, 4);
        CHECK.dueTold("mean of 3, 4", x, x.mean(0), 1, 3);
        Streets.fill(x, 0, -3, -4);
        CHECK.dueTold("mean of -3, -4", x, x.mean(0), 1, -3);
        int most = Integer.MAX_VALUE;
        Streets.fill(x, 1, most, most, most);
        CHECK.dueTold("mean of the greatest", x, x.mean(1), 1, most);
        int least = Integer.MIN_VALUE;
        Streets.fill(x, 1, least, least);
        CHECK.dueTold("mean of the least", x, x.mean(1), 1, least);
        x.row(2, 0);
        CHECK.dueFinding("mean of none", x, x.mean(2), NOUGHT);
        CHECK.dueFinding("mean of a missing one", x, x.mean(3), NOTHING);
        CHECK.due("mean(6)", x.mean(6), BAD);
        CHECK.due("mean(-1)", x.mean(-1), BAD);
        CHECK.due("asked() stays", x.asked(), least);
    }
}
