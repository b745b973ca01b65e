/** Promises 34 to 41, and telling among the terms: a test for each sentence that has an edge. */
public final class KnowingEdgesTest {
    private static final int BAD = PaperWalls.BAD, FULL = PaperWalls.FULL, STATE = PaperWalls.STATE;
    private static final Check CHECK = new Check("KnowingEdgesTest");

    public static void main(String[] args) {
        nobodyAtFirst();
        allThings();
        comes();
        tell();
        tellToNobody();
        tellFull();
        undo();
        undoAll();
        undoWhatCame();
        undoNoneThen();
        know();
        knowsThatByHearing();
        knowsThatByTelling();
        knowsThatInOneHour();
        knowsThatNowAndThen();
        knowsThatRefused();
        spread();
        spreadAsWhenTheHourBegan();
        spreadAside();
        leak();
        leakRefused();
        leaks();
        leaksAlone();
        CHECK.end();
    }

    private static void nobodyAtFirst() {
        CHECK.by(0, "At first nobody KNOWS anything; a thing COMES to one.");
        PaperWalls fresh = new PaperWalls();
        PaperWalls x = Streets.of("p0 o0 o0 o0 o0 o0 o0 o0");
        for (int thing = 0; thing < 8; thing++) {
            CHECK.due("without a street", fresh.know(thing), 0);
            CHECK.due("who know " + thing, x.know(thing), 0);
            CHECK.due("it comes", x.comes(6, thing), 1);
            CHECK.due("who know it then", x.know(thing), 64);
        }
    }

    private static void allThings() {
        CHECK.by(0, "To TELL aloud: who tells a thing (0 .. 7) that one KNOWS, in an HOUR;"
            + " all who HEAR it (nobody SINGING) KNOW it then.");
        PaperWalls x = Streets.of("p4 o0 d1 i1 o1 l1");
        x.comes(0, 0);
        x.comes(0, 7);
        CHECK.due("the first thing", x.tell(0, 0), 29);
        CHECK.due("the last thing", x.tell(0, 7), 29);
        CHECK.due("no eighth thing", x.tell(0, 8), BAD);
        for (int thing = 1; thing < 7; thing++) {
            CHECK.due("the others are not told", x.know(thing), 0);
        }
        x.wall(0, 5);
        x.comes(0, 3);
        CHECK.due("by 0, to a listener", x.tell(0, 3), 5);
        CHECK.due("loud ones tell it to deaf ones", x.comes(4, 3), 3);
        CHECK.due("all but none", x.tell(4, 3), 31);
    }

    private static void comes() {
        CHECK.by(34, "A thing COMES to one (no HOUR goes by): how many KNOW it.");
        PaperWalls x = Streets.of("p0 o0 o0 o0 o0 o0 o0 o0");
        for (int one = 0; one < 7; one++) {
            CHECK.due("to " + one, x.comes(one, 7), one + 1);
            CHECK.due("to " + one + " again", x.comes(one, 7), one + 1);
        }
        CHECK.due("no hour", x.count(3), 0);
        CHECK.due("another thing", x.comes(6, 0), 1);
        CHECK.by(34, "BAD.");
        CHECK.due("an eighth one", x.comes(7, 0), BAD);
        CHECK.due("one below", x.comes(-1, 0), BAD);
        CHECK.due("an eighth thing", x.comes(0, 8), BAD);
        CHECK.due("a thing below", x.comes(0, -1), BAD);
        CHECK.due("without a street", new PaperWalls().comes(0, 0), BAD);
    }

    private static void tell() {
        CHECK.by(35, "One TELLS a thing aloud, an HOUR goes by: who KNOW it then (bits).");
        PaperWalls x = Streets.of("p0 o0 o0 o0 o0 o0 o0 o0");
        x.comes(6, 7);
        CHECK.due("to all", x.tell(6, 7), 127);
        CHECK.due("an hour", x.count(3), 1);
        CHECK.due("to all again", x.tell(6, 7), 127);
        CHECK.due("two hours", x.count(3), 2);
        CHECK.by(35, "BAD; STATE: that one does not KNOW it;");
        CHECK.due("a thing that nobody knows", x.tell(6, 0), STATE);
        x.comes(5, 0);
        CHECK.due("a thing that another one knows", x.tell(6, 0), STATE);
        CHECK.due("an eighth one", x.tell(7, 7), BAD);
        CHECK.due("one below", x.tell(-1, 7), BAD);
        CHECK.due("an eighth thing", x.tell(6, 8), BAD);
        CHECK.due("a thing below", x.tell(6, -1), BAD);
        CHECK.due("two hours still", x.count(3), 2);
    }

    private static void tellToNobody() {
        CHECK.by(35, "an HOUR goes by");
        PaperWalls alone = Streets.of("p1 o0");
        alone.comes(0, 0);
        CHECK.due("alone", alone.tell(0, 0), 1);
        CHECK.due("an hour all the same", alone.count(3), 1);
        PaperWalls far = Streets.of("p9 o0 o1");
        far.comes(0, 0);
        CHECK.due("far off", far.tell(0, 0), 1);
        CHECK.due("an hour all the same", far.count(3), 1);
    }

    private static void tellFull() {
        CHECK.by(35, "FULL: 40 HOURS. (FULL last.)");
        PaperWalls x = Streets.of(Streets.FIVE);
        x.comes(2, 5);
        for (int h = 0; h < 39; h++) {
            x.tell(2, 5);
        }
        CHECK.due("the 40th", x.tell(2, 5), 31);
        CHECK.due("a 41st", x.tell(2, 5), FULL);
        CHECK.due("40", x.count(3), 40);
        CHECK.due("what one does not know, though full", x.tell(2, 6), STATE);
        CHECK.due("a number that is none, though full", x.tell(2, 8), BAD);
        CHECK.due("it comes all the same", x.comes(2, 6), 1);
        CHECK.due("known, and full", x.tell(2, 6), FULL);
        CHECK.due("one undone", x.undo(39), 1);
        x.comes(2, 6);
        CHECK.due("the 40th again", x.tell(2, 6), 31);
        CHECK.due("a 41st again", x.tell(2, 6), FULL);
    }

    private static void undo() {
        CHECK.by(36, "HOURS from number n on (0 to how many there are: none then, all stays) are undone");
        PaperWalls x = Scenes.full();
        CHECK.due("none", x.undo(40), 0);
        CHECK.due("all stays", x.count(3), 40);
        CHECK.due("the last", x.undo(39), 1);
        CHECK.due("the last again", x.undo(39), 0);
        CHECK.due("nine", x.undo(30), 9);
        CHECK.due("all but the first", x.undo(1), 29);
        CHECK.due("as behind the first", x.know(0), 31);
        CHECK.due("as ahead of the second", x.know(7), 8);
        CHECK.due("the first", x.undo(0), 1);
        CHECK.due("as ahead of the first", x.know(0), 4);
        CHECK.due("none of none", x.undo(0), 0);
        CHECK.by(36, "how many. BAD.");
        CHECK.due("one of none", x.undo(1), BAD);
        CHECK.due("below", x.undo(-1), BAD);
        CHECK.due("without a street, none", new PaperWalls().undo(0), 0);
        CHECK.due("without a street, one", new PaperWalls().undo(1), BAD);
        CHECK.due("a 41st", Scenes.full().undo(41), BAD);
        CHECK.due("a 42nd", Scenes.full().undo(42), BAD);
        CHECK.due("the greatest", Scenes.full().undo(Integer.MAX_VALUE), BAD);
    }

    private static void undoAll() {
        CHECK.by(36, "(what is KNOWN as ahead of it");
        PaperWalls x = Scenes.full();
        CHECK.due("all 40", x.undo(0), 40);
        CHECK.due("no hours", x.count(3), 0);
        CHECK.due("what came ahead", x.know(0), 4);
        CHECK.due("what came ahead, too", x.know(7), 8);
        CHECK.due("an hour anew", x.tell(2, 0), 31);
    }

    private static void undoWhatCame() {
        CHECK.by(36, "also by comes() since)");
        PaperWalls x = Streets.of(Streets.FIVE);
        x.comes(0, 0);
        x.comes(1, 7);
        x.tell(0, 0);
        x.comes(4, 0);
        x.comes(4, 7);
        x.tell(4, 7);
        x.comes(2, 3);
        CHECK.due("the second", x.undo(1), 1);
        CHECK.due("since the second", x.know(3), 0);
        CHECK.due("between both", x.know(0), 19);
        CHECK.due("between both, too", x.know(7), 18);
        CHECK.due("the first", x.undo(0), 1);
        CHECK.due("since the first", x.know(0), 1);
        CHECK.due("ahead of both", x.know(7), 2);
    }

    private static void undoNoneThen() {
        CHECK.by(36, "none then, all stays");
        PaperWalls x = Streets.of(Streets.FIVE);
        x.comes(0, 0);
        x.tell(0, 0);
        x.comes(4, 7);
        CHECK.due("none", x.undo(1), 0);
        CHECK.due("what came since stays", x.know(7), 16);
        CHECK.due("what was told stays", x.know(0), 3);
        CHECK.due("who knows that", x.knowsThat(1, 0, 0), 1);
        PaperWalls none = Streets.of(Streets.FIVE);
        none.comes(4, 7);
        CHECK.due("none of none", none.undo(0), 0);
        CHECK.due("what came stays", none.know(7), 16);
    }

    private static void know() {
        CHECK.by(37, "Who KNOW a thing (bits). BAD.");
        PaperWalls x = Streets.of("p0 o0 o0 o0 o0 o0 o0 o0");
        x.comes(6, 0);
        x.comes(0, 7);
        CHECK.due("the first thing", x.know(0), 64);
        CHECK.due("the last thing", x.know(7), 1);
        CHECK.due("another thing", x.know(3), 0);
        CHECK.due("an eighth thing", x.know(8), BAD);
        CHECK.due("a thing below", x.know(-1), BAD);
        for (int thing = 0; thing < 8; thing++) {
            for (int one = 0; one < 7; one++) {
                x.comes(one, thing);
            }
        }
        for (int thing = 0; thing < 8; thing++) {
            CHECK.due("all know " + thing, x.know(thing), 127);
        }
    }

    private static void knowsThatByHearing() {
        CHECK.by(38, "Whether one KNOWS that another one KNOWS a thing (1, 0): both HEARD it in one HOUR,"
            + " and the first one HEARS the other one;");
        PaperWalls x = Streets.of("p44 o1 w0 o2 l0 i2");
        x.comes(0, 0);
        CHECK.due("told", x.tell(0, 0), 31);
        CHECK.due("a loud one, far off", x.knowsThat(2, 3, 0), 0);
        CHECK.due("a loud one, by 0, listening", x.knowsThat(4, 3, 0), 1);
        CHECK.due("a listener, far off", x.knowsThat(3, 4, 0), 0);
        CHECK.due("a whisperer, near", x.knowsThat(3, 1, 0), 1);
        CHECK.due("a whisperer, far off", x.knowsThat(2, 1, 0), 0);
        x.wall(0, 3);
        CHECK.due("a loud one, by 1", x.knowsThat(2, 3, 0), 1);
        PaperWalls one = Streets.of("p5 o0 l0 l1");
        one.comes(0, 0);
        one.comes(2, 0);
        CHECK.due("told to one", one.tell(0, 0), 7);
        CHECK.due("who heard it of who did not", one.knowsThat(1, 2, 0), 0);
        CHECK.due("who did not of who heard it", one.knowsThat(2, 1, 0), 0);
        CHECK.due("who did not of who told it", one.knowsThat(2, 0, 0), 0);
        CHECK.due("who told it of who did not", one.knowsThat(0, 2, 0), 0);
    }

    private static void knowsThatByTelling() {
        CHECK.by(38, "or one of both told it, and the other one HEARD it;");
        PaperWalls x = Streets.of("p6 l0 o1 o1");
        x.comes(0, 7);
        x.comes(2, 7);
        x.wall(0, 9);
        CHECK.due("nobody hears it", x.tell(0, 7), 5);
        CHECK.due("both know it, but none heard it", x.knowsThat(0, 2, 7), 0);
        x.wall(0, 6);
        CHECK.due("all hear it", x.tell(0, 7), 7);
        CHECK.due("who told it", x.knowsThat(0, 1, 7), 1);
        CHECK.due("who heard it", x.knowsThat(1, 0, 7), 1);
        CHECK.due("who knew it already", x.knowsThat(2, 0, 7), 1);
        CHECK.due("of who knew it already", x.knowsThat(0, 2, 7), 1);
    }

    private static void knowsThatInOneHour() {
        CHECK.by(38, "in an HOUR that is not undone");
        PaperWalls x = Streets.of(Streets.FIVE);
        CHECK.due("no hours", x.knowsThat(1, 0, 0), 0);
        x.comes(0, 0);
        x.comes(3, 0);
        CHECK.due("it came to both", x.knowsThat(0, 3, 0), 0);
        x.tell(0, 0);
        x.tell(3, 0);
        CHECK.due("the first hour", x.knowsThat(1, 0, 0), 1);
        CHECK.due("the second hour", x.knowsThat(4, 3, 0), 1);
        CHECK.due("one hour each", x.knowsThat(2, 1, 0), 0);
        x.undo(1);
        CHECK.due("the first hour stays", x.knowsThat(1, 0, 0), 1);
        CHECK.due("the second hour is undone", x.knowsThat(4, 3, 0), 0);
        x.comes(2, 1);
        x.tell(2, 1);
        CHECK.due("another thing, in its place", x.knowsThat(4, 3, 0), 0);
        CHECK.due("of the other thing", x.knowsThat(4, 3, 1), 1);
        PaperWalls full = Scenes.full();
        CHECK.due("the 40th hour", full.knowsThat(4, 3, 7), 1);
        full.undo(2);
        CHECK.due("the second hour", full.knowsThat(4, 3, 7), 1);
        full.undo(1);
        CHECK.due("the first hour alone", full.knowsThat(4, 3, 7), 0);
    }

    private static void knowsThatNowAndThen() {
        CHECK.by(38, "(who HEARS whom now; who HEARD it then)");
        PaperWalls x = Streets.of("p4 o0 o0 o1 w1");
        x.comes(0, 0);
        x.tell(0, 0);
        CHECK.due("heard by 1", x.knowsThat(1, 2, 0), 1);
        x.wall(0, 20);
        CHECK.due("heard no more", x.knowsThat(1, 2, 0), 0);
        CHECK.due("but it was told", x.knowsThat(0, 2, 0), 1);
        CHECK.due("and it was heard", x.knowsThat(2, 0, 0), 1);
        CHECK.due("near still", x.knowsThat(2, 3, 0), 1);
        x.wall(0, 1);
        CHECK.due("heard now", x.knowsThat(1, 3, 0), 1);
        PaperWalls kept = Streets.of("p4 o0 o0 o1 o1");
        kept.comes(0, 0);
        kept.tell(0, 0);
        kept.keep(1);
        kept.wall(0, 20);
        kept.undo(0);
        kept.tell(0, 0);
        CHECK.due("not heard then", kept.knowsThat(2, 0, 0), 0);
        kept.on(1);
        CHECK.due("heard then, as it was kept", kept.knowsThat(2, 0, 0), 1);
    }

    private static void knowsThatRefused() {
        CHECK.by(38, "BAD: also oneself.");
        PaperWalls x = Scenes.full();
        for (int one = 0; one < 5; one++) {
            CHECK.due("oneself", x.knowsThat(one, one, 0), BAD);
        }
        CHECK.due("knowsThat(5, 0, 0)", x.knowsThat(5, 0, 0), BAD);
        CHECK.due("knowsThat(0, 5, 0)", x.knowsThat(0, 5, 0), BAD);
        CHECK.due("knowsThat(-1, 0, 0)", x.knowsThat(-1, 0, 0), BAD);
        CHECK.due("knowsThat(0, -1, 0)", x.knowsThat(0, -1, 0), BAD);
        CHECK.due("knowsThat(0, 1, 8)", x.knowsThat(0, 1, 8), BAD);
        CHECK.due("knowsThat(0, 1, -1)", x.knowsThat(0, 1, -1), BAD);
    }

    private static void spread() {
        CHECK.by(39, "Who KNOW a thing behind n (0 .. 20) HOURS");
        PaperWalls x = Streets.of("p444444 o0 o1 o2 o3 o4 o5 o6");
        x.comes(0, 7);
        int[] known = {1, 3, 7, 15, 31, 63, 127, 127};
        for (int n = 0; n < known.length; n++) {
            CHECK.due("spread(7, " + n + ")", x.spread(7, n), known[n]);
        }
        CHECK.due("20 hours", x.spread(7, 20), 127);
        CHECK.due("what nobody knows", x.spread(0, 20), 0);
        CHECK.by(39, "BAD.");
        CHECK.due("21 hours", x.spread(7, 21), BAD);
        CHECK.due("-1 hours", x.spread(7, -1), BAD);
        CHECK.due("an eighth thing", x.spread(8, 1), BAD);
        CHECK.due("a thing below", x.spread(-1, 1), BAD);
        CHECK.due("without a street", new PaperWalls().spread(7, 20), 0);
    }

    private static void spreadAsWhenTheHourBegan() {
        CHECK.by(39, "if in each all who KNOW it TELL it aloud one behind the other, by numbers,"
            + " as they KNEW it when the HOUR began");
        PaperWalls on = Streets.of("p44 o0 o1 o2");
        on.comes(0, 0);
        CHECK.due("who hears it first tells it on in the next", on.spread(0, 1), 3);
        on.comes(2, 0);
        CHECK.due("both tell it", on.spread(0, 1), 7);
        PaperWalls back = Streets.of("p44 o2 o1 o0");
        back.comes(2, 0);
        CHECK.due("back by numbers", back.spread(0, 1), 6);
        CHECK.due("and in the next", back.spread(0, 2), 7);
    }

    private static void spreadAside() {
        CHECK.by(39, "(bits; aside).");
        PaperWalls x = Streets.of(Streets.FIVE);
        x.comes(2, 0);
        long all = x.digest();
        CHECK.due("all would know", x.spread(0, 20), 31);
        CHECK.due("nothing is changed", x.digest(), all);
        CHECK.due("one knows", x.know(0), 4);
        CHECK.due("nobody knows that", x.knowsThat(0, 2, 0), 0);
        PaperWalls full = Scenes.full();
        CHECK.due("though 40 hours went by", full.spread(0, 20), 31);
    }

    private static void leak() {
        CHECK.by(40, "who it can have been (bits): those who are of the set and are HEARD by just the others of it.");
        PaperWalls x = Streets.of("p5 o0 o0 i1 d1");
        CHECK.due("both, and who listens", x.leak(7), 3);
        CHECK.due("all of them", x.leak(15), 0);
        CHECK.due("two, without who listens", x.leak(3), 0);
        CHECK.due("who listens and a deaf one", x.leak(12), 8);
        CHECK.due("a listener alone, whom no deaf one hears", x.leak(4), 4);
        CHECK.due("none", x.leak(0), 0);
        x.wall(0, 0);
        CHECK.due("all of them, without layers", x.leak(15), 11);
        CHECK.due("all but the deaf one", x.leak(7), 4);
    }

    private static void leakRefused() {
        CHECK.by(40, "From who (a set) KNOW what one alone KNEW and TOLD once");
        PaperWalls one = Streets.of("p9 o0");
        CHECK.due("one alone", one.leak(1), 1);
        CHECK.due("none", one.leak(0), 0);
        CHECK.by(40, "BAD.");
        CHECK.due("two bits", one.leak(2), BAD);
        CHECK.due("below 0", one.leak(-1), BAD);
        PaperWalls seven = Streets.of("p9 o0 o0 o0 o0 o0 o0 o0");
        CHECK.due("all seven", seven.leak(127), 127);
        CHECK.due("an eighth", seven.leak(128), BAD);
        CHECK.due("none, without a street", new PaperWalls().leak(0), 0);
        CHECK.due("one, without a street", new PaperWalls().leak(1), BAD);
    }

    private static void leaks() {
        CHECK.by(41, "Likewise told on once by one of them (perhaps the same): in how many ways (who"
            + " first, who then).");
        PaperWalls x = Streets.of("p44 o0 o1 o2");
        CHECK.due("all three, by an end and the middle, or the middle and any", x.leaks(7), 5);
        CHECK.due("the first two", x.leaks(3), 1);
        CHECK.due("the last two", x.leaks(6), 1);
        CHECK.due("the ends", x.leaks(5), 0);
        CHECK.due("one", x.leaks(2), 0);
        CHECK.due("none", x.leaks(0), 0);
        CHECK.by(41, "BAD.");
        CHECK.due("a fourth", x.leaks(8), BAD);
        CHECK.due("below 0", x.leaks(-1), BAD);
        PaperWalls seven = Streets.of("p9 o0 o0 o0 o0 o0 o0 o0");
        CHECK.due("all seven", seven.leaks(127), 49);
        CHECK.due("all but one", seven.leaks(126), 0);
        CHECK.due("an eighth", seven.leaks(128), BAD);
    }

    private static void leaksAlone() {
        CHECK.by(41, "by one of them (perhaps the same)");
        PaperWalls one = Streets.of("p9 o0");
        CHECK.due("alone, twice", one.leaks(1), 1);
        CHECK.due("none", one.leaks(0), 0);
        PaperWalls two = Streets.of("p4 w0 o1");
        CHECK.due("a whisperer far off, twice", two.leaks(1), 1);
        CHECK.due("who then is heard, first or twice", two.leaks(3), 2);
        CHECK.due("without a street", new PaperWalls().leaks(0), 0);
    }
}
