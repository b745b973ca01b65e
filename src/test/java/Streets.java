/** Streets that tests stand in, written by words. */
final class Streets {
    /**
     * Layers 5, 5. Speaking comes to rooms 0, 1, 2: of o0 5 0 -5, of w1 2 -3 -8, of s2 3 8 3,
     * of l3 -2 3 8, of i4 -8 -3 2. So they are heard by: w1; o0; all; s2 and i4; l3.
     */
    static final String FIVE = "p55 o0 w0 s1 l2 i2";

    /**
     * Layers 2, 3. Speaking comes to rooms 0, 1, 2: of l0 8 6 3, of w1 2 0 -3, of i2 0 2 -1,
     * of d3 0 2 5, of s4 6 8 5, of o5 5 3 0.
     */
    static final String SIX = "p23 l0 w0 i1 d2 s1 o0";

    private Streets() {
    }

    static void write(PaperWalls walls, int t, String words) {
        walls.text(t, words.length());
        for (int i = 0; i < words.length(); i++) {
            walls.put(t, i, words.charAt(i));
        }
    }

    static PaperWalls of(String words) {
        PaperWalls walls = new PaperWalls();
        write(walls, 0, words);
        walls.street(0);
        return walls;
    }

    /** FIVE with three talks: o0 to w1; s2 to i4, but not o0; l3 to i4, but not w1. */
    static PaperWalls fiveWithTalks() {
        PaperWalls walls = of(FIVE);
        walls.talk(0, 1, 0);
        walls.talk(2, 4, 1);
        walls.talk(3, 4, 2);
        return walls;
    }

    static void fill(PaperWalls walls, int r, int... ints) {
        walls.row(r, ints.length);
        for (int i = 0; i < ints.length; i++) {
            walls.lay(r, i, ints[i]);
        }
    }

    /** Whether a row is just these ints. */
    static boolean isRow(PaperWalls walls, int r, int... ints) {
        for (int i = 0; i < ints.length; i++) {
            if (walls.at(r, i) != 1 || walls.asked() != ints[i]) {
                return false;
            }
        }
        return walls.at(r, ints.length) == PaperWalls.FINDING;
    }
}
