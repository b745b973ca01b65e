/** Promises 34 to 44: what is told and known, leaks, kept streets, nights. */
public final class KnowingTest {
    private static final int BAD = PaperWalls.BAD, FULL = PaperWalls.FULL, NONE = PaperWalls.NONE;
    private static final int STATE = PaperWalls.STATE;
    private static final int NOTHING = 1, BEYOND = 2;
    private static final Check CHECK = new Check("KnowingTest");

    public static void main(String[] args) {
        comes();
        tell();
        tellFull();
        undo();
        know();
        knowsThat();
        knowsThatNow();
        knowsThatInOneHour();
        spread();
        leak();
        leaks();
        keep();
        on();
        nights();
        nightsRefused();
        CHECK.end();
    }

    private static void comes() {
        PaperWalls x = Streets.of(Streets.FIVE);
        CHECK.due("comes(2, 0)", x.comes(2, 0), 1);
        CHECK.due("comes(2, 0) again", x.comes(2, 0), 1);
        CHECK.due("comes(4, 0)", x.comes(4, 0), 2);
        CHECK.due("comes(4, 7)", x.comes(4, 7), 1);
        CHECK.due("know(0)", x.know(0), 20);
        CHECK.due("no hour", x.count(3), 0);
        CHECK.due("comes(5, 0)", x.comes(5, 0), BAD);
        CHECK.due("comes(-1, 0)", x.comes(-1, 0), BAD);
        CHECK.due("comes(0, 8)", x.comes(0, 8), BAD);
        CHECK.due("comes(0, -1)", x.comes(0, -1), BAD);
    }

    private static void tell() {
        PaperWalls x = Streets.of(Streets.FIVE);
        x.comes(3, 6);
        CHECK.due("not known by that one", x.tell(4, 6), STATE);
        CHECK.due("not known at all", x.tell(3, 5), STATE);
        CHECK.due("tell(3, 6)", x.tell(3, 6), 28);
        CHECK.due("an hour", x.count(3), 1);
        CHECK.due("told on", x.tell(4, 6), 28);
        CHECK.due("told to all", x.tell(2, 6), 31);
        CHECK.due("three hours", x.count(3), 3);
        CHECK.due("tell(5, 6)", x.tell(5, 6), BAD);
        CHECK.due("tell(-1, 6)", x.tell(-1, 6), BAD);
        CHECK.due("tell(3, 8)", x.tell(3, 8), BAD);
        CHECK.due("tell(3, -1)", x.tell(3, -1), BAD);
        CHECK.due("asked() stays", x.asked(), 0);
    }

    private static void tellFull() {
        PaperWalls x = Streets.of(Streets.FIVE);
        x.comes(0, 1);
        for (int h = 0; h < 40; h++) {
            CHECK.due("hour " + h, x.tell(0, 1), 3);
        }
        CHECK.due("a 41st", x.tell(0, 1), FULL);
        CHECK.due("STATE ahead of FULL", x.tell(2, 1), STATE);
        CHECK.due("BAD ahead of FULL", x.tell(9, 1), BAD);
        CHECK.due("40", x.count(3), 40);
        CHECK.due("undo the last", x.undo(39), 1);
        CHECK.due("one more", x.tell(1, 1), 3);
    }

    private static void undo() {
        PaperWalls x = Streets.of(Streets.FIVE);
        x.comes(3, 2);
        CHECK.due("hour 0", x.tell(3, 2), 28);
        x.comes(0, 2);
        CHECK.due("hour 1", x.tell(4, 2), 29);
        x.comes(1, 2);
        x.comes(1, 3);
        CHECK.due("undo(2)", x.undo(2), 0);
        CHECK.due("all stays", x.know(2), 31);
        CHECK.due("undo(3)", x.undo(3), BAD);
        CHECK.due("undo(-1)", x.undo(-1), BAD);
        CHECK.due("undo(1)", x.undo(1), 1);
        CHECK.due("ahead of hour 1", x.know(2), 29);
        CHECK.due("what came since", x.know(3), 0);
        CHECK.due("count(3)", x.count(3), 1);
        CHECK.due("undo(0)", x.undo(0), 1);
        CHECK.due("ahead of hour 0", x.know(2), 8);
        CHECK.due("undo(0) again", x.undo(0), 0);
        x.comes(1, 2);
        CHECK.due("none to undo", x.undo(0), 0);
        CHECK.due("what came stays", x.know(2), 10);
        x.tell(3, 2);
        x.tell(3, 2);
        x.tell(3, 2);
        CHECK.due("two of three", x.undo(1), 2);
        CHECK.due("as behind the first", x.know(2), 30);
    }

    private static void know() {
        PaperWalls x = Streets.of("p0 o0 o0 o0 o0 o0 o0 o0");
        x.comes(6, 7);
        x.comes(0, 7);
        CHECK.due("know(7)", x.know(7), 65);
        CHECK.due("know(0)", x.know(0), 0);
        x.tell(0, 7);
        CHECK.due("all", x.know(7), 127);
        CHECK.due("know(8)", x.know(8), BAD);
        CHECK.due("know(-1)", x.know(-1), BAD);
    }

    private static void knowsThat() {
        PaperWalls x = Streets.of(Streets.FIVE);
        x.comes(2, 0);
        x.comes(0, 0);
        CHECK.due("nothing told", x.knowsThat(0, 2, 0), 0);
        x.tell(2, 0);
        CHECK.due("who told it", x.knowsThat(2, 0, 0), 1);
        CHECK.due("who heard it", x.knowsThat(0, 2, 0), 1);
        CHECK.due("both heard it, and one the other one", x.knowsThat(0, 1, 0), 1);
        CHECK.due("both heard it, but not one the other one", x.knowsThat(0, 3, 0), 0);
        CHECK.due("two behind a wall", x.knowsThat(4, 3, 0), 1);
        CHECK.due("another thing", x.knowsThat(0, 1, 1), 0);
        CHECK.due("oneself", x.knowsThat(0, 0, 0), BAD);
        CHECK.due("knowsThat(5, 0, 0)", x.knowsThat(5, 0, 0), BAD);
        CHECK.due("knowsThat(0, 5, 0)", x.knowsThat(0, 5, 0), BAD);
        CHECK.due("knowsThat(-1, 0, 0)", x.knowsThat(-1, 0, 0), BAD);
        CHECK.due("knowsThat(0, -1, 0)", x.knowsThat(0, -1, 0), BAD);
        CHECK.due("knowsThat(0, 1, 8)", x.knowsThat(0, 1, 8), BAD);
        CHECK.due("knowsThat(0, 1, -1)", x.knowsThat(0, 1, -1), BAD);
        x.undo(0);
        CHECK.due("undone", x.knowsThat(0, 1, 0), 0);
        CHECK.due("undone, too", x.knowsThat(0, 2, 0), 0);
    }

    private static void knowsThatNow() {
        PaperWalls x = Streets.of(Streets.FIVE);
        x.comes(2, 4);
        x.tell(2, 4);
        x.move(0, 2);
        CHECK.due("who hears whom now", x.knowsThat(0, 3, 4), 1);
        CHECK.due("no more", x.knowsThat(0, 1, 4), 0);
        x.wall(0, 20);
        x.wall(1, 20);
        CHECK.due("who heard it then", x.knowsThat(2, 1, 4), 1);
        CHECK.due("who heard it then, too", x.knowsThat(1, 2, 4), 1);
    }

    private static void knowsThatInOneHour() {
        PaperWalls x = Streets.of(Streets.FIVE);
        x.comes(0, 1);
        x.comes(3, 1);
        x.tell(0, 1);
        x.tell(3, 1);
        CHECK.due("heard in two hours", x.knowsThat(1, 2, 1), 0);
        CHECK.due("told, but not to that one", x.knowsThat(0, 2, 1), 0);
        CHECK.due("told in two hours", x.knowsThat(0, 3, 1), 0);
        CHECK.due("in the second hour", x.knowsThat(4, 3, 1), 1);
        CHECK.due("in the second hour, back", x.knowsThat(3, 4, 1), 1);
        CHECK.due("in the first hour", x.knowsThat(0, 1, 1), 1);
    }

    private static void spread() {
        PaperWalls x = Streets.of(Streets.FIVE);
        x.comes(4, 0);
        CHECK.due("no hours", x.spread(0, 0), 16);
        CHECK.due("an hour", x.spread(0, 1), 24);
        CHECK.due("two hours", x.spread(0, 2), 28);
        CHECK.due("three hours", x.spread(0, 3), 31);
        CHECK.due("20 hours", x.spread(0, 20), 31);
        CHECK.due("aside", x.know(0), 16);
        CHECK.due("aside, too", x.count(3), 0);
        CHECK.due("nobody", x.spread(1, 20), 0);
        CHECK.due("spread(0, 21)", x.spread(0, 21), BAD);
        CHECK.due("spread(0, -1)", x.spread(0, -1), BAD);
        CHECK.due("spread(8, 0)", x.spread(8, 0), BAD);
        CHECK.due("spread(-1, 0)", x.spread(-1, 0), BAD);
        PaperWalls y = Streets.of("p44 o0 o1 o2");
        y.comes(0, 0);
        CHECK.due("as known when the hour began", y.spread(0, 1), 3);
        CHECK.due("the next hour", y.spread(0, 2), 7);
    }

    private static void leak() {
        PaperWalls x = Streets.of(Streets.FIVE);
        CHECK.due("leak(3)", x.leak(3), 3);
        CHECK.due("leak(31)", x.leak(31), 4);
        CHECK.due("leak(28)", x.leak(28), 8);
        CHECK.due("leak(24)", x.leak(24), 16);
        CHECK.due("leak(30)", x.leak(30), 0);
        CHECK.due("leak(0)", x.leak(0), 0);
        CHECK.due("leak(1)", x.leak(1), 0);
        CHECK.due("leak(32)", x.leak(32), BAD);
        CHECK.due("leak(-1)", x.leak(-1), BAD);
        CHECK.due("who is heard by nobody", Streets.of("p9 o0 o1").leak(3), 0);
        CHECK.due("who is heard by nobody, alone", Streets.of("p9 o0 o1").leak(2), 2);
    }

    private static void leaks() {
        PaperWalls x = Streets.of(Streets.FIVE);
        CHECK.due("leaks(3)", x.leaks(3), 4);
        CHECK.due("leaks(24)", x.leaks(24), 1);
        CHECK.due("leaks(28)", x.leaks(28), 3);
        CHECK.due("leaks(31)", x.leaks(31), 6);
        CHECK.due("leaks(0)", x.leaks(0), 0);
        CHECK.due("leaks(32)", x.leaks(32), BAD);
        CHECK.due("leaks(-1)", x.leaks(-1), BAD);
        CHECK.due("alone, twice", Streets.of("p9 o0 o1").leaks(2), 1);
        CHECK.due("never both", Streets.of("p9 o0 o1").leaks(3), 0);
    }

    private static void keep() {
        PaperWalls x = Streets.of(Streets.FIVE);
        CHECK.due("keep(2)", x.keep(2), 0);
        x.comes(0, 0);
        x.tell(0, 0);
        CHECK.due("keep(0)", x.keep(0), 1);
        CHECK.due("keep(2) over", x.keep(2), 1);
        CHECK.due("count(8)", x.count(8), 2);
        CHECK.due("keep(3)", x.keep(3), BAD);
        CHECK.due("keep(-1)", x.keep(-1), BAD);
        PaperWalls nobody = Streets.of("p12");
        CHECK.due("no people", nobody.keep(0), STATE);
        CHECK.due("BAD ahead of STATE", nobody.keep(3), BAD);
        CHECK.due("none kept", nobody.count(8), 0);
    }

    private static void on() {
        PaperWalls x = Streets.fiveWithTalks();
        x.comes(0, 0);
        x.tell(0, 0);
        x.comes(3, 5);
        x.tell(3, 5);
        x.keep(0);
        long digest = x.digest();
        x.move(0, 2);
        x.wall(1, 0);
        x.off(1);
        x.talk(3, 1, 1);
        x.undo(0);
        x.comes(4, 7);
        x.tell(4, 7);
        CHECK.due("on(0)", x.on(0), 2);
        CHECK.due("all as it was", x.digest(), digest);
        CHECK.due("layers", x.wall(1, 5), 5);
        CHECK.due("talks", x.safes(), 2);
        CHECK.due("who heard it then", x.knowsThat(0, 1, 0), 1);
        CHECK.due("undone from there", x.undo(1), 1);
        CHECK.due("as ahead of it", x.know(5), 8);
        CHECK.due("kept still", x.on(0), 2);
        CHECK.due("as kept", x.know(5), 28);
        x.undo(0);
        x.comes(2, 5);
        x.tell(2, 5);
        x.tell(2, 5);
        x.on(0);
        CHECK.due("the second undone", x.undo(1), 1);
        CHECK.due("as ahead of the second", x.know(5), 8);
        CHECK.due("the first undone", x.undo(0), 1);
        CHECK.due("as ahead of the first", x.know(5), 0);
        x.on(0);
        x.keep(1);
        x.undo(0);
        CHECK.due("another place", x.on(1), 2);
        CHECK.dueFinding("on(2)", x, x.on(2), NOTHING);
        CHECK.due("on(3)", x.on(3), BAD);
        CHECK.due("on(-1)", x.on(-1), BAD);
        Streets.fill(x, 0, 4);
        CHECK.due("rows are not of a street", x.on(0), 2);
        CHECK.due("a row stays", Streets.isRow(x, 0, 4) ? 1 : 0, 1);
    }

    /** Lots of seed 1 are 48271, 182605794, 1291394886, 1914720637, 2078669041. */
    private static void nights() {
        PaperWalls x = Streets.fiveWithTalks();
        CHECK.dueTold("one cries, who has to hear", x, x.nights(0, 1, 1), 0, NONE);
        CHECK.dueTold("then four", x, x.nights(0, 2, 1), 1, 4);
        CHECK.dueTold("then one, two, one", x, x.nights(0, 5, 1), 1, 4);
        CHECK.dueTold("never nought", x, x.nights(1, 5, 1), 0, NONE);
        CHECK.dueTold("one cries, who must not hear", x, x.nights(2, 5, 1), 4, 1);
        for (int seed = 1; seed < 16; seed += 3) {
            dueNights(x, 1, 60, seed);
        }
        dueNights(Streets.fiveWithTalks(), 2, 60, 2147483646);
        dueNights(Streets.fiveWithTalks(), 0, 59, 1234567890);
    }

    private static void dueNights(PaperWalls x, int k, int n, int seed) {
        long lot = seed;
        int safe = 0;
        int last = NONE;
        for (int night = 0; night < n; night++) {
            lot = lot * 48271 % 2147483647;
            int crier = (int) (lot % 5);
            if (x.safe(k, 1 << crier) == 1) {
                safe++;
                last = crier;
            }
        }
        CHECK.dueTold("nights(" + k + ", " + n + ", " + seed + ")", x, x.nights(k, n, seed), safe, last);
    }

    private static void nightsRefused() {
        PaperWalls x = Streets.fiveWithTalks();
        CHECK.due("no nights", x.nights(0, 0, 1), BAD);
        CHECK.due("61 nights", x.nights(0, 61, 1), BAD);
        CHECK.due("seed 0", x.nights(0, 1, 0), BAD);
        CHECK.due("seed -1", x.nights(0, 1, -1), BAD);
        CHECK.due("seed 2147483647", x.nights(0, 1, 2147483647), BAD);
        CHECK.due("talk -1", x.nights(-1, 1, 1), BAD);
        CHECK.due("BAD ahead of BEYOND", x.nights(3, 0, 1), BAD);
        CHECK.dueFinding("talk 3", x, x.nights(3, 1, 1), BEYOND);
    }
}
