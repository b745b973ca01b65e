import java.util.HashSet;
import java.util.Set;
import java.util.function.Supplier;
import java.util.function.ToIntFunction;
import java.util.regex.Matcher;
import java.util.regex.Pattern;

/** Every refusal that a promise names, and every NONE: what is answered, and that nothing else changes. */
public final class RefusedTest {
    private static final int LEAST = Integer.MIN_VALUE, GREATEST = Integer.MAX_VALUE;
    private static final String[] FINDINGS = {"", "NOTHING", "BEYOND", "UNLIKE", "NOUGHT", "SIZE"};
    private static final Check CHECK = new Check("RefusedTest");
    private static final Set<String> TRIED = new HashSet<>();

    private static Supplier<PaperWalls> scene;
    private static int promise;

    public static void main(String[] args) {
        CHECK.by(0, "Refused is, the first of these that fits, in this order: BAD -1 (a number that is none, or not"
            + " as told), FULL -2, STATE -4 (not now), SPENT -6 (more than told), FINDING -3 (finding() tells which),"
            + " unless a call says so otherwise. NONE -9.");
        rows();
        copies();
        texts();
        people();
        hearing();
        talks();
        moreOfTalks();
        rooms();
        knowing();
        moreOfKnowing();
        keeping();
        told();
        refusedWithoutAnything();
        allAreTried();
        CHECK.end();
    }

    private static void in(Supplier<PaperWalls> where, int n) {
        scene = where;
        promise = n;
    }

    /** The first of two alike objects is called: the answer, its finding, and nothing else. */
    private static void refused(String word, String call, ToIntFunction<PaperWalls> asks) {
        TRIED.add(promise + " " + word);
        String name = "promise " + promise + ", " + word + ", " + call;
        PaperWalls x = scene.get();
        PaperWalls still = scene.get();
        CHECK.due(name, asks.applyAsInt(x), answerOf(word));
        for (int f = 1; f <= 5; f++) {
            int more = FINDINGS[f].equals(word) ? 1 : 0;
            CHECK.due(name + ", findings(" + f + ")", x.findings(f), still.findings(f) + more);
            if (more == 1) {
                CHECK.due(name + ", finding()", x.finding(), f);
            }
        }
        if (answerOf(word) != PaperWalls.FINDING) {
            CHECK.due(name + ", finding() stays", x.finding(), still.finding());
        }
        CHECK.due(name + ", all else stays", Twins.stayAlike(scene, asks::applyAsInt) ? 1 : 0, 1);
    }

    private static int answerOf(String word) {
        switch (word) {
            case "BAD":
                return PaperWalls.BAD;
            case "FULL":
                return PaperWalls.FULL;
            case "STATE":
                return PaperWalls.STATE;
            case "NONE":
                return PaperWalls.NONE;
            default:
                return PaperWalls.FINDING;
        }
    }

    private static void rows() {
        in(Scenes::rich, 2);
        refused("BAD", "row(-1, 1)", x -> x.row(-1, 1));
        refused("BAD", "row(6, 1)", x -> x.row(6, 1));
        refused("BAD", "no such row ahead of SIZE", x -> x.row(6, -1));
        refused("BAD", "row(0, 41)", x -> x.row(0, 41));
        refused("BAD", "row(0, greatest)", x -> x.row(0, GREATEST));
        refused("SIZE", "row(0, -1)", x -> x.row(0, -1));
        refused("SIZE", "row(2, least)", x -> x.row(2, LEAST));
        in(Scenes::rich, 3);
        refused("BAD", "lay(-1, 0, 9)", x -> x.lay(-1, 0, 9));
        refused("BAD", "lay(6, 0, 9)", x -> x.lay(6, 0, 9));
        refused("NOTHING", "lay(2, 0, 9)", x -> x.lay(2, 0, 9));
        refused("NOTHING", "ahead of BEYOND", x -> x.lay(2, -1, 9));
        refused("BEYOND", "lay(0, -1, 9)", x -> x.lay(0, -1, 9));
        refused("BEYOND", "lay(0, 3, 9)", x -> x.lay(0, 3, 9));
        refused("BEYOND", "lay(1, 0, 9)", x -> x.lay(1, 0, 9));
        refused("BEYOND", "lay(5, 40, 9)", x -> x.lay(5, 40, 9));
        in(Scenes::rich, 4);
        refused("BAD", "at(-1, 0)", x -> x.at(-1, 0));
        refused("BAD", "at(6, 0)", x -> x.at(6, 0));
        refused("NOTHING", "at(2, 0)", x -> x.at(2, 0));
        refused("NOTHING", "ahead of BEYOND", x -> x.at(2, 40));
        refused("BEYOND", "at(0, -1)", x -> x.at(0, -1));
        refused("BEYOND", "at(0, 3)", x -> x.at(0, 3));
        refused("BEYOND", "at(1, 0)", x -> x.at(1, 0));
        refused("BEYOND", "at(5, 40)", x -> x.at(5, 40));
        refused("BEYOND", "at(5, least)", x -> x.at(5, LEAST));
        in(Scenes::rich, 5);
        refused("BAD", "tear(-1)", x -> x.tear(-1));
        refused("BAD", "tear(6)", x -> x.tear(6));
        refused("NOTHING", "tear(2)", x -> x.tear(2));
        in(Scenes::rich, 7);
        refused("BAD", "mean(-1)", x -> x.mean(-1));
        refused("BAD", "mean(6)", x -> x.mean(6));
        refused("NOTHING", "mean(4)", x -> x.mean(4));
        refused("NOUGHT", "mean(1)", x -> x.mean(1));
    }

    private static void copies() {
        in(Scenes::rich, 6);
        refused("BAD", "from -1", x -> x.copy(-1, 0, 0, 0, 1));
        refused("BAD", "from 6", x -> x.copy(6, 0, 0, 0, 1));
        refused("BAD", "to -1", x -> x.copy(0, 0, -1, 0, 1));
        refused("BAD", "to 6", x -> x.copy(0, 0, 6, 0, 1));
        refused("BAD", "from 6, ahead of SIZE", x -> x.copy(6, 0, 0, 0, -1));
        refused("BAD", "to 6, ahead of SIZE, NOTHING", x -> x.copy(2, 0, 6, 0, -1));
        refused("SIZE", "-1 places", x -> x.copy(0, 0, 5, 0, -1));
        refused("SIZE", "the least number of places", x -> x.copy(0, 0, 5, 0, LEAST));
        refused("SIZE", "ahead of NOTHING", x -> x.copy(2, 0, 0, 0, -1));
        refused("SIZE", "ahead of BEYOND", x -> x.copy(0, 9, 5, 0, -1));
        refused("NOTHING", "from a missing one", x -> x.copy(2, 0, 0, 0, 1));
        refused("NOTHING", "to a missing one", x -> x.copy(0, 0, 2, 0, 1));
        refused("NOTHING", "from a missing one, none", x -> x.copy(2, 0, 0, 0, 0));
        refused("NOTHING", "to a missing one, none", x -> x.copy(0, 0, 2, 0, 0));
        refused("NOTHING", "both missing", x -> x.copy(2, 0, 3, 0, 1));
        refused("NOTHING", "ahead of BEYOND", x -> x.copy(0, 9, 2, 9, 1));
        refused("BEYOND", "one too many to take", x -> x.copy(0, 0, 5, 0, 4));
        refused("BEYOND", "one too many from a place on", x -> x.copy(0, 2, 5, 0, 2));
        refused("BEYOND", "one too many to lay", x -> x.copy(5, 0, 0, 0, 4));
        refused("BEYOND", "one too many to lay from a place on", x -> x.copy(5, 0, 0, 2, 2));
        refused("BEYOND", "within one row", x -> x.copy(0, 0, 0, 1, 3));
        refused("BEYOND", "one of none", x -> x.copy(1, 0, 5, 0, 1));
        refused("BEYOND", "one into none", x -> x.copy(0, 0, 1, 0, 1));
        refused("BEYOND", "none, i below 0", x -> x.copy(0, -1, 5, 0, 0));
        refused("BEYOND", "none, j below 0", x -> x.copy(0, 0, 5, -1, 0));
        refused("BEYOND", "none, i above the size", x -> x.copy(0, 4, 5, 0, 0));
        refused("BEYOND", "none, j above the size", x -> x.copy(5, 0, 0, 4, 0));
        refused("BEYOND", "i below 0, places enough", x -> x.copy(0, -1, 5, 0, 1));
        refused("BEYOND", "j below 0, places enough", x -> x.copy(0, 0, 5, -1, 1));
        refused("BEYOND", "i and n that wrap around", x -> x.copy(0, 1, 5, 0, GREATEST));
        refused("BEYOND", "n and i that wrap around", x -> x.copy(0, GREATEST, 5, 0, 1));
        refused("BEYOND", "j and n that wrap around", x -> x.copy(0, 0, 5, GREATEST, 1));
        refused("BEYOND", "i the least", x -> x.copy(0, LEAST, 5, 0, 1));
        refused("BEYOND", "j the least", x -> x.copy(0, 0, 5, LEAST, 1));
    }

    private static void texts() {
        in(Scenes::rich, 8);
        refused("BAD", "text(-1, 1)", x -> x.text(-1, 1));
        refused("BAD", "text(4, 1)", x -> x.text(4, 1));
        refused("BAD", "no such text ahead of SIZE", x -> x.text(4, -1));
        refused("BAD", "text(0, 81)", x -> x.text(0, 81));
        refused("BAD", "text(0, greatest)", x -> x.text(0, GREATEST));
        refused("SIZE", "text(0, -1)", x -> x.text(0, -1));
        refused("SIZE", "text(2, least)", x -> x.text(2, LEAST));
        in(Scenes::rich, 9);
        refused("BAD", "put(-1, 0, 9)", x -> x.put(-1, 0, 9));
        refused("BAD", "put(4, 0, 9)", x -> x.put(4, 0, 9));
        refused("NOTHING", "put(2, 0, 9)", x -> x.put(2, 0, 9));
        refused("NOTHING", "ahead of BEYOND", x -> x.put(2, -1, 9));
        refused("BEYOND", "put(1, -1, 9)", x -> x.put(1, -1, 9));
        refused("BEYOND", "put(1, 6, 9)", x -> x.put(1, 6, 9));
        refused("BEYOND", "put(3, 0, 9)", x -> x.put(3, 0, 9));
        refused("BEYOND", "put(1, 80, 9)", x -> x.put(1, 80, 9));
        in(Scenes::rich, 10);
        refused("BAD", "fault(-1)", x -> x.fault(-1));
        refused("BAD", "fault(4)", x -> x.fault(4));
        refused("NOTHING", "fault(2)", x -> x.fault(2));
        refused("NONE", "fault(0)", x -> x.fault(0));
        in(Scenes::rich, 11);
        refused("BAD", "street(-1)", x -> x.street(-1));
        refused("BAD", "street(4)", x -> x.street(4));
        refused("NOTHING", "street(2), ahead of STATE", x -> x.street(2));
        refused("STATE", "street(1)", x -> x.street(1));
        refused("STATE", "street(3)", x -> x.street(3));
    }

    private static void people() {
        in(Scenes::rich, 12);
        refused("BAD", "person(-1, 0)", x -> x.person(-1, 0));
        refused("BAD", "person(5, 0)", x -> x.person(5, 0));
        refused("BAD", "person(0, -1)", x -> x.person(0, -1));
        refused("BAD", "person(0, 5)", x -> x.person(0, 5));
        in(Scenes::rich, 13);
        refused("BAD", "mark(-1, 1)", x -> x.mark(-1, 1));
        refused("BAD", "mark(5, 1)", x -> x.mark(5, 1));
        refused("BAD", "KIND 0 of one of KIND 0", x -> x.mark(0, 0));
        refused("BAD", "KIND 0 ahead of UNLIKE", x -> x.mark(1, 0));
        refused("BAD", "mark(0, -1)", x -> x.mark(0, -1));
        refused("BAD", "mark(0, 6)", x -> x.mark(0, 6));
        in(() -> Streets.of("p2 o0 l1 w0 d1 s0 i1"), 13);
        for (int one = 0; one < 6; one++) {
            for (int kind = 1; kind < 6; kind++) {
                boolean isOf = one == kind || one == 4 && kind == 1 || one == 5 && kind == 2;
                int who = one;
                int wanted = kind;
                if (!isOf) {
                    refused("UNLIKE", "mark(" + one + ", " + kind + ")", x -> x.mark(who, wanted));
                }
            }
        }
        in(Scenes::rich, 14);
        refused("BAD", "wall(-1, 1)", x -> x.wall(-1, 1));
        refused("BAD", "wall(2, 1)", x -> x.wall(2, 1));
        refused("BAD", "wall(0, -1)", x -> x.wall(0, -1));
        refused("BAD", "wall(0, 21)", x -> x.wall(0, 21));
        in(Scenes::rich, 15);
        refused("BAD", "move(-1, 0)", x -> x.move(-1, 0));
        refused("BAD", "move(5, 0)", x -> x.move(5, 0));
        refused("BAD", "move(0, -1)", x -> x.move(0, -1));
        refused("BAD", "move(0, 3)", x -> x.move(0, 3));
    }

    private static void hearing() {
        in(Scenes::rich, 16);
        refused("BAD", "hears(-1, 0)", x -> x.hears(-1, 0));
        refused("BAD", "hears(5, 0)", x -> x.hears(5, 0));
        refused("BAD", "hears(0, -1)", x -> x.hears(0, -1));
        refused("BAD", "hears(0, 5)", x -> x.hears(0, 5));
        refused("BAD", "oneself", x -> x.hears(3, 3));
        in(Scenes::rich, 17);
        refused("BAD", "heard(-1, 0)", x -> x.heard(-1, 0));
        refused("BAD", "heard(5, 0)", x -> x.heard(5, 0));
        refused("BAD", "heard(32, 0)", x -> x.heard(32, 0));
        refused("BAD", "bits of nobody", x -> x.heard(0, 32));
        refused("BAD", "bits below 0", x -> x.heard(0, -2));
        refused("BAD", "the least bits", x -> x.heard(0, LEAST));
        refused("BAD", "that one SINGS", x -> x.heard(0, 1));
        refused("BAD", "that one SINGS, too", x -> x.heard(4, 31));
        in(Scenes::rich, 18);
        refused("BAD", "noise(-1, 0)", x -> x.noise(-1, 0));
        refused("BAD", "noise(3, 0)", x -> x.noise(3, 0));
        refused("BAD", "bits of nobody", x -> x.noise(0, 32));
        refused("BAD", "bits below 0", x -> x.noise(0, -1));
        in(Scenes::rich, 19);
        refused("BAD", "hush(-1)", x -> x.hush(-1));
        refused("BAD", "hush(5)", x -> x.hush(5));
    }

    private static void talks() {
        in(Scenes::rich, 20);
        refused("BAD", "talk(-1, 0, 0)", x -> x.talk(-1, 0, 0));
        refused("BAD", "talk(5, 0, 0)", x -> x.talk(5, 0, 0));
        refused("BAD", "talk(0, -1, 0)", x -> x.talk(0, -1, 0));
        refused("BAD", "talk(0, 5, 0)", x -> x.talk(0, 5, 0));
        refused("BAD", "with oneself", x -> x.talk(2, 2, 0));
        refused("BAD", "who SPEAKS among those who must not", x -> x.talk(0, 4, 9));
        refused("BAD", "who has to HEAR among those who must not", x -> x.talk(0, 4, 24));
        refused("BAD", "bits of nobody", x -> x.talk(0, 1, 32));
        refused("BAD", "bits below 0", x -> x.talk(0, 1, -4));
        in(Scenes::full, 20);
        refused("FULL", "a ninth", x -> x.talk(0, 1, 0));
        refused("BAD", "with oneself, ahead of FULL", x -> x.talk(0, 0, 0));
        refused("BAD", "nobody, ahead of FULL", x -> x.talk(0, 5, 0));
        refused("BAD", "bits of nobody, ahead of FULL", x -> x.talk(0, 1, 32));
        in(Scenes::rich, 21);
        refused("BAD", "off(-1)", x -> x.off(-1));
        refused("BAD", "off(4)", x -> x.off(4));
        refused("BAD", "off(5)", x -> x.off(5));
        refused("BAD", "off(greatest)", x -> x.off(GREATEST));
        in(Scenes::rich, 22);
        refused("BAD", "about(-1, 0)", x -> x.about(-1, 0));
        refused("BAD", "about(0, -1)", x -> x.about(0, -1));
        refused("BAD", "about(0, 3)", x -> x.about(0, 3));
        refused("BAD", "ahead of BEYOND", x -> x.about(3, 3));
        refused("BEYOND", "about(3, 0)", x -> x.about(3, 0));
        refused("BEYOND", "about(greatest, 0)", x -> x.about(GREATEST, 0));
        in(Scenes::full, 22);
        refused("BEYOND", "about(8, 0)", x -> x.about(8, 0));
    }

    private static void moreOfTalks() {
        in(Scenes::rich, 23);
        refused("BAD", "safe(-1, 0)", x -> x.safe(-1, 0));
        refused("BAD", "bits of nobody", x -> x.safe(0, 32));
        refused("BAD", "bits below 0", x -> x.safe(0, -1));
        refused("BAD", "ahead of BEYOND", x -> x.safe(3, 32));
        refused("BEYOND", "safe(3, 0)", x -> x.safe(3, 0));
        in(Scenes::full, 23);
        refused("BEYOND", "safe(8, 0)", x -> x.safe(8, 0));
        in(Scenes::rich, 24);
        refused("BAD", "cover(-1)", x -> x.cover(-1));
        refused("BEYOND", "cover(3)", x -> x.cover(3));
        in(Scenes::full, 24);
        refused("BEYOND", "cover(8)", x -> x.cover(8));
        in(Scenes::apart, 24);
        refused("NONE", "cover(0)", x -> x.cover(0));
        in(Scenes::rich, 25);
        refused("BAD", "beside(-1)", x -> x.beside(-1));
        refused("BAD", "bits of a TALK that there is not", x -> x.beside(8));
        refused("BAD", "such bits and others", x -> x.beside(9));
        in(Scenes::full, 25);
        refused("BAD", "beside(256)", x -> x.beside(256));
        in(Scenes::apart, 26);
        refused("NONE", "turns()", x -> x.turns());
    }

    private static void rooms() {
        in(Scenes::rich, 29);
        refused("BAD", "rooms(-1)", x -> x.rooms(-1));
        refused("BAD", "rooms(6)", x -> x.rooms(6));
        in(Scenes::nobody, 29);
        refused("STATE", "rooms(0), no PEOPLE", x -> x.rooms(0));
        refused("BAD", "ahead of STATE", x -> x.rooms(6));
        in(Scenes::apart, 30);
        refused("NONE", "swap()", x -> x.swap());
        in(Scenes::rich, 31);
        refused("BAD", "paste(-1, 0)", x -> x.paste(-1, 0));
        refused("BAD", "paste(0, -1)", x -> x.paste(0, -1));
        refused("BAD", "paste(0, 6)", x -> x.paste(0, 6));
        refused("BAD", "ahead of BEYOND", x -> x.paste(3, 6));
        refused("BEYOND", "paste(3, 0)", x -> x.paste(3, 0));
        in(Scenes::full, 31);
        refused("BEYOND", "paste(8, 0)", x -> x.paste(8, 0));
        in(Scenes::apart, 31);
        refused("NONE", "paste(0, 0)", x -> x.paste(0, 0));
        refused("NONE", "paste(0, 1)", x -> x.paste(0, 1));
        in(Scenes::rich, 32);
        refused("BAD", "tearOff(-1, 0)", x -> x.tearOff(-1, 0));
        refused("BAD", "tearOff(5, 0)", x -> x.tearOff(5, 0));
        refused("BAD", "tearOff(0, -1)", x -> x.tearOff(0, -1));
        refused("BAD", "tearOff(0, 5)", x -> x.tearOff(0, 5));
        refused("BAD", "oneself", x -> x.tearOff(2, 2));
        in(Scenes::apart, 32);
        refused("NONE", "not by one WALL", x -> x.tearOff(0, 1));
        in(Scenes::rich, 33);
        refused("BAD", "rent(-1)", x -> x.rent(-1));
        refused("BAD", "rent(3)", x -> x.rent(3));
    }

    private static void knowing() {
        in(Scenes::rich, 34);
        refused("BAD", "comes(-1, 0)", x -> x.comes(-1, 0));
        refused("BAD", "comes(5, 0)", x -> x.comes(5, 0));
        refused("BAD", "comes(0, -1)", x -> x.comes(0, -1));
        refused("BAD", "comes(0, 8)", x -> x.comes(0, 8));
        in(Scenes::rich, 35);
        refused("BAD", "tell(-1, 0)", x -> x.tell(-1, 0));
        refused("BAD", "tell(5, 0)", x -> x.tell(5, 0));
        refused("BAD", "tell(0, -1)", x -> x.tell(0, -1));
        refused("BAD", "tell(0, 8)", x -> x.tell(0, 8));
        refused("STATE", "one who does not KNOW it", x -> x.tell(0, 7));
        refused("STATE", "what nobody KNOWS", x -> x.tell(0, 1));
        in(Scenes::full, 35);
        refused("FULL", "a 41st HOUR", x -> x.tell(2, 0));
        refused("STATE", "ahead of FULL", x -> x.tell(0, 7));
        refused("BAD", "ahead of STATE, FULL", x -> x.tell(0, 8));
        in(Scenes::rich, 36);
        refused("BAD", "undo(-1)", x -> x.undo(-1));
        refused("BAD", "undo(4)", x -> x.undo(4));
        refused("BAD", "undo(5)", x -> x.undo(5));
        refused("BAD", "undo(greatest)", x -> x.undo(GREATEST));
        in(Scenes::full, 36);
        refused("BAD", "undo(41)", x -> x.undo(41));
        in(Scenes::rich, 37);
        refused("BAD", "know(-1)", x -> x.know(-1));
        refused("BAD", "know(8)", x -> x.know(8));
    }

    private static void moreOfKnowing() {
        in(Scenes::rich, 38);
        refused("BAD", "knowsThat(-1, 0, 0)", x -> x.knowsThat(-1, 0, 0));
        refused("BAD", "knowsThat(5, 0, 0)", x -> x.knowsThat(5, 0, 0));
        refused("BAD", "knowsThat(0, -1, 0)", x -> x.knowsThat(0, -1, 0));
        refused("BAD", "knowsThat(0, 5, 0)", x -> x.knowsThat(0, 5, 0));
        refused("BAD", "knowsThat(0, 2, -1)", x -> x.knowsThat(0, 2, -1));
        refused("BAD", "knowsThat(0, 2, 8)", x -> x.knowsThat(0, 2, 8));
        refused("BAD", "oneself", x -> x.knowsThat(2, 2, 0));
        in(Scenes::rich, 39);
        refused("BAD", "spread(-1, 0)", x -> x.spread(-1, 0));
        refused("BAD", "spread(8, 0)", x -> x.spread(8, 0));
        refused("BAD", "spread(0, -1)", x -> x.spread(0, -1));
        refused("BAD", "spread(0, 21)", x -> x.spread(0, 21));
        in(Scenes::rich, 40);
        refused("BAD", "leak(-1)", x -> x.leak(-1));
        refused("BAD", "leak(32)", x -> x.leak(32));
        in(Scenes::rich, 41);
        refused("BAD", "leaks(-1)", x -> x.leaks(-1));
        refused("BAD", "leaks(32)", x -> x.leaks(32));
    }

    private static void keeping() {
        in(Scenes::rich, 42);
        refused("BAD", "keep(-1)", x -> x.keep(-1));
        refused("BAD", "keep(3)", x -> x.keep(3));
        in(Scenes::nobody, 42);
        refused("STATE", "keep(0), no PEOPLE", x -> x.keep(0));
        refused("BAD", "ahead of STATE", x -> x.keep(3));
        in(Scenes::rich, 43);
        refused("BAD", "on(-1)", x -> x.on(-1));
        refused("BAD", "on(3)", x -> x.on(3));
        refused("NOTHING", "on(1)", x -> x.on(1));
        in(Scenes::rich, 44);
        refused("BAD", "nights(-1, 1, 1)", x -> x.nights(-1, 1, 1));
        refused("BAD", "no nights", x -> x.nights(0, 0, 1));
        refused("BAD", "nights below 0", x -> x.nights(0, -1, 1));
        refused("BAD", "61 nights", x -> x.nights(0, 61, 1));
        refused("BAD", "seed 0", x -> x.nights(0, 1, 0));
        refused("BAD", "seed -1", x -> x.nights(0, 1, -1));
        refused("BAD", "seed 2147483647", x -> x.nights(0, 1, GREATEST));
        refused("BAD", "no nights, ahead of BEYOND", x -> x.nights(3, 0, 1));
        refused("BAD", "seed 0, ahead of BEYOND", x -> x.nights(3, 1, 0));
        refused("BEYOND", "nights(3, 1, 1)", x -> x.nights(3, 1, 1));
        in(Scenes::full, 44);
        refused("BEYOND", "nights(8, 60, 5)", x -> x.nights(8, 60, 5));
    }

    private static void told() {
        in(Scenes::rich, 48);
        refused("BAD", "count(-1)", x -> x.count(-1));
        refused("BAD", "count(9)", x -> x.count(9));
        in(Scenes::rich, 50);
        refused("BAD", "findings(0)", x -> x.findings(0));
        refused("BAD", "findings(6)", x -> x.findings(6));
        refused("BAD", "findings(-1)", x -> x.findings(-1));
    }

    private static void refusedWithoutAnything() {
        in(Scenes::fresh, 18);
        refused("BAD", "no WALLS, room 0", x -> x.noise(0, 0));
        in(Scenes::fresh, 33);
        refused("BAD", "no WALLS, room 0", x -> x.rent(0));
        in(Scenes::fresh, 14);
        refused("BAD", "no WALLS", x -> x.wall(0, 0));
        in(Scenes::fresh, 29);
        refused("STATE", "no PEOPLE", x -> x.rooms(0));
        in(Scenes::fresh, 42);
        refused("STATE", "no PEOPLE", x -> x.keep(0));
        in(Scenes::fresh, 43);
        refused("NOTHING", "none kept", x -> x.on(0));
        in(Scenes::fresh, 25);
        refused("BAD", "no TALKS", x -> x.beside(1));
        in(Scenes::fresh, 21);
        refused("BAD", "no TALKS", x -> x.off(1));
        in(Scenes::fresh, 36);
        refused("BAD", "no HOURS", x -> x.undo(1));
        in(Scenes::fresh, 40);
        refused("BAD", "bits of nobody", x -> x.leak(1));
        in(Scenes::fresh, 41);
        refused("BAD", "bits of nobody", x -> x.leaks(1));
        in(Scenes::fresh, 30);
        refused("NONE", "nobody to change", x -> x.swap());
        in(Scenes::nobody, 12);
        refused("BAD", "no PEOPLE", x -> x.person(0, 0));
        in(Scenes::nobody, 15);
        refused("BAD", "no PEOPLE", x -> x.move(0, 0));
        in(Scenes::nobody, 18);
        refused("BAD", "bits of nobody", x -> x.noise(0, 1));
        in(Scenes::nobody, 19);
        refused("BAD", "no PEOPLE", x -> x.hush(0));
        in(Scenes::nobody, 34);
        refused("BAD", "no PEOPLE", x -> x.comes(0, 0));
        in(Scenes::nobody, 44);
        refused("BEYOND", "no TALKS", x -> x.nights(0, 1, 1));
    }

    /**
     * Every refusal that the document names with a promise is tried above. NONE is no answer of nights() and
     * asked(), and none that hush() can come to: if all others SING, nobody HEARS one.
     */
    private static void allAreTried() {
        Pattern word = Pattern.compile("\\b(BAD|FULL|STATE|NONE|NOTHING|BEYOND|UNLIKE|NOUGHT|SIZE)\\b");
        Set<String> free = Set.of("19 NONE", "44 NONE", "45 NONE");
        for (int n = 1; n <= Document.PROMISES && Document.isHere(); n++) {
            Matcher named = word.matcher(Document.promise(n));
            while (named.find()) {
                String due = n + " " + named.group();
                CHECK.due("a refusal is tried: " + due, TRIED.contains(due) || free.contains(due) ? 1 : 0, 1);
            }
        }
    }
}
