/** Promises 29 to 33: a test for each sentence that has an edge. */
public final class RoomEdgesTest {
    private static final int BAD = PaperWalls.BAD, NONE = PaperWalls.NONE, STATE = PaperWalls.STATE;
    private static final int BEYOND = 2;
    private static final Check CHECK = new Check("RoomEdgesTest");

    public static void main(String[] args) {
        roomsOfOne();
        roomsTheFirst();
        roomsOfSeven();
        roomsLastOfAll();
        roomsAnew();
        roomsRefused();
        swap();
        swapTheFirst();
        swapNone();
        pasteNone();
        pasteSix();
        pasteSeven();
        pasteTheFirst();
        pasteOnThickWalls();
        pasteAnew();
        pasteRefused();
        tearNone();
        tearOffOneAlone();
        tearOffTheFirst();
        tearDownToNone();
        tearOffRefused();
        rent();
        rentByWhoIsHeard();
        rentRefused();
        CHECK.end();
    }

    private static void dueRooms(String call, PaperWalls x, int safe, int... whose) {
        CHECK.due(call, x.rooms(3), safe);
        CHECK.dueRow(call, x, 3, whose);
    }

    private static void roomsOfOne() {
        CHECK.by(29, "Of all ways in which PEOPLE can change ROOMS among them that by which most TALKS are SAFE");
        dueRooms("one", Streets.of("p1 o1"), 0, 0);
        PaperWalls two = Streets.of("p9 l0 o1");
        two.talk(0, 1, 0);
        dueRooms("two, never safe", two, 0, 0, 1);
        two.wall(0, 7);
        dueRooms("two, safe as they are", two, 1, 0, 1);
        PaperWalls none = Streets.of("p0 o0 o0 o0 o0 o0 o0 o0");
        dueRooms("seven without talks", none, 0, 0, 1, 2, 3, 4, 5, 6);
    }

    private static void roomsTheFirst() {
        CHECK.by(29, "(the first, by whose ROOM each has)");
        PaperWalls x = Streets.of("p9 o0 o1 o1 o0");
        x.talk(0, 1, 0);
        dueRooms("the first of alike ways", x, 1, 0, 3, 1, 2);
        x.talk(2, 3, 1);
        dueRooms("as it leaves the others", x, 2, 0, 3, 1, 2);
        PaperWalls same = Streets.of("p9 o1 o1 o1");
        same.talk(0, 1, 0);
        dueRooms("all in one room", same, 1, 0, 1, 2);
    }

    private static void roomsOfSeven() {
        CHECK.by(29, "for each whose ROOM): how many.");
        PaperWalls x = Streets.of("p999999 o0 o1 o2 o3 o4 o5 o5");
        for (int k = 0; k < 8; k++) {
            x.talk(k % 2, 1 - k % 2, 124);
        }
        dueRooms("eight talks in the last room", x, 8, 5, 6, 0, 1, 2, 3, 4);
        x.off(7);
        x.talk(0, 2, 0);
        dueRooms("seven of eight", x, 7, 5, 6, 0, 1, 2, 3, 4);
    }

    private static void roomsLastOfAll() {
        CHECK.by(29, "that by which most TALKS are SAFE");
        PaperWalls x = Streets.of("p87 l0 o1 i2");
        x.talk(0, 1, 4);
        CHECK.due("as it is", x.safes(), 0);
        dueRooms("the last of all ways alone", x, 1, 2, 1, 0);
        PaperWalls two = Streets.of("p9 i0 i1 o0");
        two.talk(2, 1, 1);
        dueRooms("two change", two, 1, 1, 0, 2);
    }

    private static void roomsAnew() {
        CHECK.by(29, "comes to a ROW (anew;");
        PaperWalls x = Streets.of("p9 o0 o1 o1");
        x.talk(0, 1, 0);
        x.row(3, 40);
        long street = x.upper();
        dueRooms("a longer one ahead", x, 1, 1, 2, 0);
        x.row(3, 0);
        dueRooms("an empty one ahead", x, 1, 1, 2, 0);
        x.tear(3);
        dueRooms("a missing one ahead", x, 1, 1, 2, 0);
        for (int one = 0; one < 3; one++) {
            CHECK.dueTold("nobody moves", x, x.person(one, 1), 1, one == 0 ? 0 : 1);
        }
        CHECK.due("who hears whom stays", x.upper(), street);
        CHECK.due("row 0", x.rooms(0), 1);
        CHECK.due("row 5", x.rooms(5), 1);
        CHECK.due("three rows", x.count(6), 3);
    }

    private static void roomsRefused() {
        CHECK.by(29, "BAD; STATE: no PEOPLE.");
        CHECK.due("no street", new PaperWalls().rooms(0), STATE);
        PaperWalls x = Streets.of("p123456");
        CHECK.due("walls alone", x.rooms(5), STATE);
        CHECK.due("a row below", x.rooms(-1), BAD);
        CHECK.due("a seventh row", x.rooms(6), BAD);
        CHECK.due("no row", x.count(6), 0);
    }

    private static void swap() {
        CHECK.by(30, "Which two should change ROOMS (10 times the lesser number and the greater one; the first),"
            + " so that most TALKS are SAFE; how many by asked().");
        PaperWalls x = Streets.of("p999999 o0 o1 o2 o3 o4 o4 o6");
        x.talk(6, 4, 0);
        CHECK.dueTold("five and six", x, x.swap(), 56, 1);
        PaperWalls y = Streets.of("p99 o0 o0 o0 o0 o0 o1 o2");
        y.talk(5, 0, 64);
        CHECK.dueTold("one and five", y, y.swap(), 15, 1);
        PaperWalls first = Streets.of("p9 o0 o1 o1");
        first.talk(0, 2, 0);
        CHECK.dueTold("nought and one", first, first.swap(), 1, 1);
        PaperWalls last = Streets.of("p9 w0 w0 w0 w0 w0 l0 w1");
        last.talk(5, 6, 0);
        CHECK.dueTold("nought and six", last, last.swap(), 6, 1);
        last.talk(6, 5, 31);
        CHECK.dueTold("one at a time", last, last.swap(), 6, 1);
    }

    private static void swapTheFirst() {
        CHECK.by(30, "the first), so that most TALKS are SAFE");
        PaperWalls x = Streets.of("p9 o0 o1 o0 o1");
        x.talk(0, 1, 0);
        CHECK.dueTold("the first of four", x, x.swap(), 3, 1);
        x.talk(2, 3, 0);
        CHECK.dueTold("the first of two, both safe", x, x.swap(), 3, 2);
        PaperWalls two = Streets.of("p99 o0 o0 o0 o0 o0 o1 o2");
        two.talk(0, 5, 0);
        two.talk(1, 5, 64);
        two.talk(2, 5, 0);
        two.talk(3, 5, 0);
        two.talk(4, 5, 0);
        CHECK.dueTold("five by the first", two, two.swap(), 5, 4);
    }

    private static void swapNone() {
        CHECK.by(30, "NONE: no change makes more.");
        PaperWalls alone = Streets.of("p1 o0");
        alone.person(0, 2);
        CHECK.dueTold("one alone", alone, alone.swap(), NONE, 5);
        PaperWalls fresh = new PaperWalls();
        CHECK.dueTold("nobody", fresh, fresh.swap(), NONE, 0);
        PaperWalls x = Streets.of("p9 o0 o0 o1");
        x.talk(0, 1, 0);
        x.person(0, 2);
        CHECK.dueTold("as many as before", x, x.swap(), NONE, 5);
        x.talk(0, 2, 0);
        CHECK.dueTold("one for another one", x, x.swap(), NONE, 5);
    }

    private static void duePaste(String call, PaperWalls x, int k, int fewest, int... layers) {
        CHECK.due(call, x.paste(k, 4), fewest);
        CHECK.dueRow(call, x, 4, layers);
    }

    private static void pasteNone() {
        CHECK.by(31, "The fewest LAYERS (6 at most) to be pasted on WALLS so that a TALK is SAFE");
        PaperWalls x = Streets.of("p555555 o0 o0 o1");
        x.talk(0, 1, 4);
        duePaste("none", x, 0, 0, 0, 0, 0, 0, 0, 0);
        x.wall(0, 4);
        duePaste("one", x, 0, 1, 1, 0, 0, 0, 0, 0);
    }

    private static void pasteSix() {
        CHECK.by(31, "(6 at most)");
        PaperWalls x = Streets.of("p0 o0 o0 w1 i1");
        x.talk(2, 3, 1);
        duePaste("two", x, 0, 2, 2);
        x.talk(0, 1, 4);
        duePaste("five", x, 1, 5, 5);
        x.talk(0, 1, 12);
        duePaste("six, on one wall", x, 2, 6, 6);
        PaperWalls two = Streets.of("p02 o1 l1 i0 i2");
        two.talk(0, 1, 8);
        duePaste("four, behind", two, 0, 4, 0, 4);
        two.wall(1, 3);
        two.wall(0, 3);
        two.talk(0, 1, 12);
        duePaste("six, on two walls", two, 1, 6, 3, 3);
    }

    private static void pasteSeven() {
        CHECK.by(31, "NONE: by no more than 6.");
        PaperWalls x = Streets.of("p22 o1 l1 i0 i2");
        Streets.fill(x, 4, 7, 7);
        x.talk(0, 1, 12);
        CHECK.due("eight", x.paste(0, 4), NONE);
        x.wall(0, 3);
        CHECK.due("seven", x.paste(0, 4), NONE);
        CHECK.dueRow("the row stays", x, 4, 7, 7);
        x.wall(1, 3);
        duePaste("six", x, 0, 6, 3, 3);
        PaperWalls never = Streets.of("p9 o0 o0 o1 o0");
        never.talk(0, 1, 8);
        never.talk(0, 2, 0);
        CHECK.due("in one room", never.paste(0, 4), NONE);
        CHECK.due("too far off", never.paste(1, 4), NONE);
        CHECK.due("no row", never.count(6), 0);
    }

    private static void pasteTheFirst() {
        CHECK.by(31, "how many on each WALL comes to a ROW (anew; of alike ones the first, by WALLS, the"
            + " least first).");
        PaperWalls x = Streets.of("p111 o0 o0 o3");
        x.talk(0, 1, 4);
        duePaste("on the last", x, 0, 2, 0, 0, 2);
        PaperWalls between = Streets.of("p1111 o0 o2 i3");
        between.talk(0, 1, 4);
        duePaste("behind who has to hear", between, 0, 3, 0, 0, 3, 0);
        PaperWalls two = Streets.of("p1111 o2 o2 o0 o4");
        two.talk(0, 1, 12);
        duePaste("on both sides", two, 0, 6, 0, 3, 0, 3);
    }

    private static void pasteOnThickWalls() {
        CHECK.by(31, "to be pasted on WALLS");
        PaperWalls x = Streets.of("p00 o0 o0 o1 o2");
        x.wall(1, 20);
        x.talk(0, 1, 12);
        duePaste("none on a thick one", x, 0, 5, 5, 0);
        CHECK.due("the walls stay", x.wall(0, 1), 0);
        CHECK.due("the walls stay, too", x.wall(1, 1), 20);
    }

    private static void pasteAnew() {
        CHECK.by(31, "comes to a ROW (anew;");
        PaperWalls x = Streets.of("p111 o0 o0 o3");
        x.talk(0, 1, 4);
        x.row(4, 40);
        duePaste("a longer one ahead", x, 0, 2, 0, 0, 2);
        x.row(4, 1);
        duePaste("a shorter one ahead", x, 0, 2, 0, 0, 2);
        x.tear(4);
        duePaste("a missing one ahead", x, 0, 2, 0, 0, 2);
    }

    private static void pasteRefused() {
        CHECK.by(31, "BAD: below 0, a ROW; BEYOND.");
        PaperWalls x = Scenes.full();
        CHECK.due("a talk below 0", x.paste(-1, 0), BAD);
        CHECK.due("a row below 0", x.paste(0, -1), BAD);
        CHECK.due("a seventh row", x.paste(0, 6), BAD);
        CHECK.due("a seventh row of a ninth talk", x.paste(8, 6), BAD);
        CHECK.dueFinding("a ninth talk", x, x.paste(8, 5), BEYOND);
        CHECK.due("no row", x.count(6), 0);
        CHECK.due("an eighth talk", x.paste(7, 5), 3);
    }

    private static void tearNone() {
        CHECK.by(32, "(NONE: none has to)");
        PaperWalls x = Streets.of("p4 o0 o1 i1");
        CHECK.dueTold("heard by 1", x, x.tearOff(1, 0), 0, NONE);
        x.wall(0, 5);
        CHECK.dueTold("heard by 0, listening", x, x.tearOff(2, 0), 0, NONE);
        CHECK.dueTold("one has to", x, x.tearOff(1, 0), 1, 0);
        CHECK.dueTold("in one room", x, x.tearOff(1, 2), 0, NONE);
    }

    private static void tearOffOneAlone() {
        CHECK.by(32, "The fewest LAYERS to be torn off WALLS (down to 0 each) so that one HEARS another one;"
            + " that WALL (one alone; the first) by asked()");
        PaperWalls x = Streets.of("p44 o0 o2");
        CHECK.dueTold("four of the first", x, x.tearOff(0, 1), 4, 0);
        x.wall(0, 3);
        CHECK.dueTold("three of the first", x, x.tearOff(0, 1), 3, 0);
        x.wall(1, 5);
        CHECK.dueTold("four of the second, as the first has three", x, x.tearOff(0, 1), 4, 1);
        CHECK.by(32, "NONE: not by one WALL.");
        x.wall(0, 5);
        x.wall(1, 4);
        CHECK.dueTold("all five of the first", x, x.tearOff(0, 1), 5, 0);
        x.wall(1, 5);
        CHECK.dueTold("six of five and five", x, x.tearOff(0, 1), NONE, 0);
        CHECK.dueTold("six of five and five, back", x, x.tearOff(1, 0), NONE, 0);
    }

    private static void tearOffTheFirst() {
        CHECK.by(32, "(one alone; the first)");
        PaperWalls x = Streets.of("p999123 o0 o3 w6 o6");
        CHECK.due("none of 27", x.tearOff(0, 1), NONE);
        CHECK.dueTold("the first with two", x, x.tearOff(1, 3), 2, 4);
        x.wall(3, 2);
        CHECK.dueTold("the first with three", x, x.tearOff(1, 3), 3, 5);
        x.wall(3, 3);
        x.wall(5, 1);
        CHECK.dueTold("ahead of it", x, x.tearOff(3, 1), 2, 3);
        CHECK.due("a whisperer, by more than any has", x.tearOff(1, 2), NONE);
    }

    private static void tearDownToNone() {
        CHECK.by(32, "(down to 0 each)");
        PaperWalls x = Streets.of("p9 s0 d1 i1 w1");
        x.wall(0, 20);
        CHECK.dueTold("a deaf one", x, x.tearOff(1, 0), 16, 0);
        CHECK.dueTold("a listener", x, x.tearOff(2, 0), 12, 0);
        CHECK.dueTold("a whisperer", x, x.tearOff(3, 0), 13, 0);
        CHECK.dueTold("back", x, x.tearOff(0, 3), 19, 0);
        CHECK.dueTold("the wall stays", x, x.tearOff(0, 3), 19, 0);
        PaperWalls kinds = Streets.of("p9 o0 l0 w0 d0 s0 i0 o1");
        int[] fewest = {5, 5, 5, 8, 5, 4};
        for (int one = 0; one < 6; one++) {
            CHECK.dueTold("one of kind " + one, kinds, kinds.tearOff(one, 6), fewest[one], 0);
        }
        CHECK.due("never by a deaf one", Streets.of("p9 w0 d1").tearOff(1, 0), NONE);
        PaperWalls all = Streets.of("p94 l0 d2");
        CHECK.dueTold("down to 0", all, all.tearOff(1, 0), 9, 0);
        all.wall(1, 5);
        CHECK.due("one more", all.tearOff(1, 0), NONE);
        CHECK.due("in one room", Streets.of("p9 w0 d0").tearOff(1, 0), NONE);
    }

    private static void tearOffRefused() {
        CHECK.by(32, "BAD: also oneself.");
        PaperWalls x = Streets.of("p9 o0 o1");
        CHECK.due("oneself", x.tearOff(0, 0), BAD);
        CHECK.due("oneself, too", x.tearOff(1, 1), BAD);
        CHECK.due("tearOff(2, 0)", x.tearOff(2, 0), BAD);
        CHECK.due("tearOff(0, 2)", x.tearOff(0, 2), BAD);
        CHECK.due("tearOff(-1, 0)", x.tearOff(-1, 0), BAD);
        CHECK.due("tearOff(0, -1)", x.tearOff(0, -1), BAD);
    }

    private static void rent() {
        CHECK.by(33, "The RENT of a ROOM: 20 less 2 for each of PEOPLE who would be HEARD there by one of"
            + " KIND 0, 0 at least.");
        CHECK.due("nobody", Streets.of("p0").rent(0), 20);
        CHECK.due("one", Streets.of("p0 w1").rent(0), 18);
        CHECK.due("one, there", Streets.of("p0 w1").rent(1), 18);
        CHECK.due("seven", Streets.of("p000000 o0 l1 w2 d3 s4 i5 o6").rent(3), 6);
        CHECK.due("seven, the first room", Streets.of("p000000 o0 l1 w2 d3 s4 i5 o6").rent(0), 6);
        CHECK.due("seven, the last room", Streets.of("p000000 o0 l1 w2 d3 s4 i5 o6").rent(6), 6);
    }

    private static void rentByWhoIsHeard() {
        CHECK.by(33, "who would be HEARD there by one of KIND 0");
        CHECK.due("by 1", Streets.of("p4 o0").rent(1), 18);
        CHECK.due("by 0", Streets.of("p5 o0").rent(1), 20);
        CHECK.due("by -1", Streets.of("p6 o0").rent(1), 20);
        CHECK.due("by 1, a loud one", Streets.of("p7 l0").rent(1), 18);
        CHECK.due("by 0, a singer", Streets.of("p8 s0").rent(1), 20);
        CHECK.due("by 1, a whisperer", Streets.of("p1 w0").rent(1), 18);
        CHECK.due("by 0, a listener", Streets.of("p2 i0").rent(1), 20);
        CHECK.due("by 0, though a listener is there", Streets.of("p5 o0 i1").rent(1), 18);
        CHECK.due("by 1, though a deaf one is there", Streets.of("p4 o0 d1").rent(1), 16);
    }

    private static void rentRefused() {
        CHECK.by(33, "BAD (also without WALLS).");
        PaperWalls x = Streets.of("p123456 o0");
        CHECK.due("an eighth room", x.rent(7), BAD);
        CHECK.due("a room below", x.rent(-1), BAD);
        CHECK.due("no walls", new PaperWalls().rent(0), BAD);
        CHECK.due("no walls, another room", new PaperWalls().rent(1), BAD);
    }
}
