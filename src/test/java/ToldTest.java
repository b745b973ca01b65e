/** Promises 45 to 51: asked, pairs, counts, findings, the digest. */
public final class ToldTest {
    private static final int BAD = PaperWalls.BAD, NONE = PaperWalls.NONE;
    private static final Check CHECK = new Check("ToldTest");

    public static void main(String[] args) {
        asked();
        askedStays();
        pairs();
        count();
        findings();
        digestOfNothing();
        digest();
        CHECK.end();
    }

    private static void asked() {
        PaperWalls x = Streets.fiveWithTalks();
        x.row(0, 2);
        CHECK.dueTold("lay", x, x.lay(0, 0, 6), 1, 0);
        CHECK.dueTold("at", x, x.at(0, 0), 1, 6);
        CHECK.dueTold("mean", x, x.mean(0), 1, 3);
        CHECK.dueTold("person", x, x.person(2, 3), 1, 10);
        CHECK.dueTold("hears", x, x.hears(0, 3), 0, -2);
        CHECK.dueTold("hush", x, x.hush(0), 1, 2);
        CHECK.dueTold("about", x, x.about(1, 1), 1, 4);
        CHECK.dueTold("safe", x, x.safe(1, 0), 0, 1);
        CHECK.dueTold("cover", x, x.cover(0), 0, 0);
        CHECK.dueTold("turns", x, x.turns(), 2, 3);
        CHECK.dueTold("safes", x, x.safes(), 2, 5);
        CHECK.dueTold("most", x, x.most(), 2, 3);
        CHECK.dueTold("tearOff", x, x.tearOff(3, 2), 0, NONE);
        CHECK.dueTold("swap", x, x.swap(), 24, 3);
        CHECK.dueTold("nights", x, x.nights(0, 2, 1), 1, 4);
    }

    private static void askedStays() {
        PaperWalls x = Streets.fiveWithTalks();
        x.person(2, 3);
        x.row(0, 1);
        x.text(1, 3);
        x.put(1, 0, 9);
        x.fault(0);
        x.copy(0, 0, 0, 0, 1);
        x.mark(2, 1);
        x.wall(0, 4);
        x.move(0, 1);
        x.heard(0, 0);
        x.noise(0, 1);
        x.beside(1);
        x.rooms(1);
        x.paste(0, 2);
        x.rent(0);
        x.comes(0, 0);
        x.tell(0, 0);
        x.undo(0);
        x.know(0);
        x.knowsThat(0, 1, 0);
        x.spread(0, 3);
        x.leak(3);
        x.leaks(3);
        x.keep(0);
        x.on(0);
        x.count(0);
        x.findings(1);
        x.upper();
        x.lower();
        x.digest();
        x.tear(0);
        x.talk(0, 1, 0);
        x.off(0);
        x.street(0);
        CHECK.due("asked() of others", x.asked(), 10);
        x.at(5, 0);
        x.mean(5);
        x.person(9, 0);
        x.hears(0, 0);
        x.hush(9);
        x.about(0, 0);
        x.safe(0, 0);
        x.cover(0);
        x.tearOff(0, 0);
        x.nights(0, 1, 1);
        x.swap();
        CHECK.due("asked() of refused ones", x.asked(), 10);
    }

    private static void duePairs(String words, int upper, int lower) {
        PaperWalls x = Streets.of(words);
        CHECK.due("upper() of " + words, x.upper(), upper);
        CHECK.due("lower() of " + words, x.lower(), lower);
    }

    private static void pairs() {
        duePairs(Streets.FIVE, 9, 20);
        duePairs("p9 o0 o1", 0, 1);
        duePairs("p9 o0", 0, 1);
        duePairs("p9", 0, 1);
        duePairs("p9 o0 o0", 1, 1);
        duePairs("p9 o0 o0 o1", 1, 3);
        duePairs("p5 l0 o1", 1, 2);
        duePairs("p0 o0 o0 o0 o0 o0 o0 o0", 1, 1);
        duePairs("p9 o0 o0 o0 o1 o1 o1", 2, 5);
    }

    private static void count() {
        PaperWalls x = Streets.of("p123 o0 l0 l0 w0 s1 i2 d2");
        int[] want = {7, 3, 0, 0, 3, 2, 0, 1, 0};
        for (int what = 0; what <= 8; what++) {
            CHECK.due("count(" + what + ")", x.count(what), want[what]);
        }
        x.talk(0, 1, 0);
        x.comes(0, 0);
        x.tell(0, 0);
        x.tell(0, 0);
        x.row(5, 0);
        x.row(3, 3);
        x.row(3, 4);
        x.text(3, 0);
        x.keep(2);
        int[] then = {7, 3, 1, 2, 3, 2, 2, 2, 1};
        for (int what = 0; what <= 8; what++) {
            CHECK.due("then count(" + what + ")", x.count(what), then[what]);
        }
        CHECK.due("count(9)", x.count(9), BAD);
        CHECK.due("count(-1)", x.count(-1), BAD);
    }

    private static void findings() {
        PaperWalls x = Streets.of("p1 o0");
        x.at(0, 0);
        x.row(0, 0);
        x.at(0, 0);
        x.mean(0);
        x.row(0, -1);
        x.mark(0, 1);
        x.mark(0, 1);
        CHECK.due("finding()", x.finding(), 3);
        int[] want = {0, 1, 1, 2, 1, 1};
        for (int f = 1; f <= 5; f++) {
            CHECK.due("findings(" + f + ")", x.findings(f), want[f]);
        }
        x.mark(9, 1);
        x.keep(9);
        CHECK.due("BAD is no finding", x.finding(), 3);
        x.mean(0);
        CHECK.due("the latest", x.finding(), 4);
        CHECK.due("how often", x.findings(4), 2);
        CHECK.due("findings(0)", x.findings(0), BAD);
        CHECK.due("findings(6)", x.findings(6), BAD);
        CHECK.due("findings(-1)", x.findings(-1), BAD);
    }

    private static long mix(long start, int... all) {
        long h = start;
        for (int v : all) {
            h = 31 * h + v;
        }
        return h;
    }

    private static void digestOfNothing() {
        long h = mix(17, 0, 0, 0, 0, 0, 0, 0, 0, 0);
        h = mix(h, -1, -1, -1, -1, -1, -1, -1, -1, -1, -1, -1, -1, -1);
        PaperWalls x = new PaperWalls();
        CHECK.due("digest() of nothing", x.digest(), h);
    }

    private static void digest() {
        PaperWalls x = Streets.of("p94 s2 w0 d1");
        x.wall(1, 20);
        x.talk(2, 0, 2);
        x.talk(1, 0, 0);
        x.comes(1, 3);
        x.comes(0, 6);
        x.keep(0);
        x.tell(1, 3);
        x.tell(0, 6);
        x.keep(2);
        Streets.fill(x, 4, -7, Integer.MAX_VALUE);
        x.row(5, 0);
        x.text(0, 0);
        x.text(2, 2);
        x.put(2, 1, 200);
        x.person(0, 1);
        long h = mix(17, 3, 2, 2, 2, 1, 1, 2, 2, 2);
        h = mix(h, 9, 20);
        h = mix(h, 4, 2, 8, 10, 64, 2, 0, 2, 2, 8, 3, 1, 5, 5, 0);
        h = mix(h, 2, 0, 2, 1, 0, 0);
        h = mix(h, 13, 6);
        h = mix(h, 0, -1, 2);
        h = mix(h, -1, -1, -1, -1, 2, -7, Integer.MAX_VALUE, 0);
        h = mix(h, 0, -1, 2, 32, -56, -1);
        CHECK.due("digest()", x.digest(), h);
        CHECK.due("asked() stays", x.asked(), 2);
        CHECK.due("digest() again", x.digest(), h);
    }
}
