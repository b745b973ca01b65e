/** Promises 29 to 33: rooms changed, walls pasted and torn, rents. */
public final class RoomsTest {
    private static final int BAD = PaperWalls.BAD, NONE = PaperWalls.NONE, STATE = PaperWalls.STATE;
    private static final int NOTHING = 1, BEYOND = 2;
    private static final Check CHECK = new Check("RoomsTest");

    public static void main(String[] args) {
        rooms();
        roomsRefused();
        swap();
        paste();
        pasteFirst();
        pasteRefused();
        tearOff();
        tearOffWithin();
        tearOffRefused();
        rent();
        CHECK.end();
    }

    private static void dueRow(String call, PaperWalls x, int r, int... ints) {
        CHECK.due(call + ", row " + r, Streets.isRow(x, r, ints) ? 1 : 0, 1);
    }

    private static void rooms() {
        PaperWalls x = Streets.of("p9 o0 o1 o1");
        x.talk(0, 1, 0);
        long digest = x.digest();
        CHECK.due("rooms(4)", x.rooms(4), 1);
        CHECK.due("asked() stays", x.asked(), 0);
        dueRow("rooms(4)", x, 4, 1, 2, 0);
        x.tear(4);
        CHECK.due("the street stays", x.digest(), digest);
        x.row(0, 40);
        x.wall(0, 0);
        CHECK.due("safe as it is", x.rooms(0), 1);
        dueRow("safe as it is", x, 0, 0, 1, 2);
        x.off(0);
        CHECK.due("no talks", x.rooms(5), 0);
        dueRow("no talks", x, 5, 0, 1, 2);
        x.wall(0, 20);
        x.talk(0, 1, 4);
        x.talk(1, 0, 4);
        CHECK.due("two by one change", x.rooms(0), 2);
        dueRow("two by one change", x, 0, 1, 2, 0);
        x.talk(2, 0, 0);
        CHECK.due("the most, not all", x.rooms(0), 2);
        dueRow("the most, not all", x, 0, 1, 2, 0);
    }

    private static void roomsRefused() {
        PaperWalls x = new PaperWalls();
        CHECK.due("rooms(6)", x.rooms(6), BAD);
        CHECK.due("rooms(-1)", x.rooms(-1), BAD);
        CHECK.due("no people", x.rooms(0), STATE);
        PaperWalls walls = Streets.of("p12");
        CHECK.due("walls, no people", walls.rooms(0), STATE);
        CHECK.due("no row", walls.count(6), 0);
    }

    private static void swap() {
        PaperWalls x = Streets.of("p9 o0 o1 o1");
        x.talk(0, 1, 0);
        CHECK.dueTold("the first two", x, x.swap(), 2, 1);
        CHECK.due("the street stays", x.move(0, 0), 0);
        x.wall(0, 1);
        x.person(0, 2);
        CHECK.due("safe already", x.swap(), NONE);
        CHECK.due("asked() stays", x.asked(), 5);
        PaperWalls more = Streets.of("p9 o0 o1 o0 o1 w0");
        more.talk(0, 1, 0);
        more.talk(2, 3, 0);
        CHECK.dueTold("one by the other", more, more.swap(), 3, 2);
        PaperWalls five = Streets.fiveWithTalks();
        CHECK.dueTold("three of three", five, five.swap(), 24, 3);
        CHECK.due("no talks", Streets.of("p1 o0 o1").swap(), NONE);
    }

    private static void paste() {
        PaperWalls x = Streets.of("p11 o0 o0 o1 o2");
        x.talk(0, 1, 12);
        long digest = x.digest();
        CHECK.due("the first wall", x.paste(0, 2), 4);
        dueRow("the first wall", x, 2, 4, 0);
        CHECK.due("asked() is of at() alone", x.asked(), 0);
        x.tear(2);
        CHECK.due("the walls stay", x.digest(), digest);
        x.wall(0, 5);
        x.row(2, 9);
        CHECK.due("none has to be", x.paste(0, 2), 0);
        dueRow("none has to be", x, 2, 0, 0);
    }

    private static void pasteFirst() {
        PaperWalls x = Streets.of("p11 o0 o0 o1 o2");
        x.talk(0, 1, 8);
        CHECK.due("the least first", x.paste(0, 0), 3);
        dueRow("the least first", x, 0, 0, 3);
        x.talk(0, 2, 8);
        CHECK.due("who has to hear hears", x.paste(1, 0), 3);
        dueRow("who has to hear hears", x, 0, 0, 3);
        PaperWalls between = Streets.of("p111111 o3 o0 o3 o6");
        between.talk(0, 2, 10);
        CHECK.due("on both sides", between.paste(0, 0), 4);
        dueRow("on both sides", between, 0, 0, 0, 2, 0, 0, 2);
        PaperWalls six = Streets.of("p2 s0 o0 o1");
        six.talk(0, 1, 4);
        CHECK.due("six", six.paste(0, 0), 6);
        dueRow("six", six, 0, 6);
    }

    private static void pasteRefused() {
        PaperWalls x = Streets.of("p1 s0 o0 o1");
        x.talk(0, 1, 4);
        CHECK.due("seven", x.paste(0, 0), NONE);
        CHECK.dueFinding("no row", x, x.at(0, 0), NOTHING);
        CHECK.due("paste(-1, 0)", x.paste(-1, 0), BAD);
        CHECK.due("paste(0, -1)", x.paste(0, -1), BAD);
        CHECK.due("paste(0, 6)", x.paste(0, 6), BAD);
        CHECK.due("paste(9, 6)", x.paste(9, 6), BAD);
        CHECK.dueFinding("paste(1, 0)", x, x.paste(1, 0), BEYOND);
    }

    private static void tearOff() {
        PaperWalls x = Streets.of("p142 d0 o3 l3 w3");
        CHECK.dueTold("back", x, x.tearOff(0, 2), 3, 1);
        CHECK.dueTold("on", x, x.tearOff(1, 0), 3, 1);
        CHECK.due("too many for one wall", x.tearOff(0, 1), NONE);
        CHECK.due("never loud enough", x.tearOff(0, 3), NONE);
        CHECK.due("asked() stays", x.asked(), 1);
        CHECK.dueTold("heard already", x, x.tearOff(1, 2), 0, NONE);
        CHECK.due("the walls stay", x.wall(1, 4), 4);
        PaperWalls all = Streets.of("p6 i0 w1 o1");
        CHECK.dueTold("by 0 for a listener", all, all.tearOff(0, 1), 4, 0);
        CHECK.dueTold("by 1 for one of kind 0", all, all.tearOff(2, 0), 5, 0);
        all.move(2, 0);
        all.wall(0, 5);
        CHECK.dueTold("by 1", all, all.tearOff(1, 2), 1, 0);
    }

    private static void tearOffWithin() {
        PaperWalls x = Streets.of("p933 o1 o3");
        CHECK.dueTold("no wall ahead of both", x, x.tearOff(0, 1), 2, 1);
        x.wall(1, 1);
        x.wall(2, 5);
        CHECK.dueTold("the first with as many", x, x.tearOff(1, 0), 2, 2);
        PaperWalls y = Streets.of("p229 d0 o2");
        CHECK.due("no wall behind both", y.tearOff(0, 1), NONE);
        y.wall(1, 3);
        CHECK.due("one too few", y.tearOff(0, 1), NONE);
        y.wall(0, 0);
        y.wall(1, 20);
        CHECK.dueTold("just as many", y, y.tearOff(0, 1), 19, 1);
        PaperWalls whole = Streets.of("p24 l0 d2 o2");
        CHECK.dueTold("a whole wall", whole, whole.tearOff(1, 0), 2, 0);
    }

    private static void tearOffRefused() {
        PaperWalls x = Streets.of("p142 d0 o3 l3 w3");
        CHECK.due("oneself", x.tearOff(0, 0), BAD);
        CHECK.due("tearOff(4, 0)", x.tearOff(4, 0), BAD);
        CHECK.due("tearOff(0, 4)", x.tearOff(0, 4), BAD);
        CHECK.due("tearOff(-1, 0)", x.tearOff(-1, 0), BAD);
        CHECK.due("tearOff(0, -1)", x.tearOff(0, -1), BAD);
    }

    private static void rent() {
        PaperWalls x = Streets.of(Streets.FIVE);
        CHECK.due("rent(0)", x.rent(0), 14);
        CHECK.due("rent(1)", x.rent(1), 16);
        CHECK.due("rent(2)", x.rent(2), 14);
        CHECK.due("rent(3)", x.rent(3), BAD);
        CHECK.due("rent(-1)", x.rent(-1), BAD);
        CHECK.due("seven laugh", Streets.of("p0 o0 o0 w0 d0 s0 i0 l0").rent(1), 6);
        CHECK.due("nobody laughs", Streets.of("p0").rent(1), 20);
        CHECK.due("nothing by 0", Streets.of("p5 o0").rent(1), 20);
    }
}
