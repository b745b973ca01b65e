/** Counts the answers of a test that are not as due, and ends it. */
final class Check {
    private final String name;
    private int asked = 0;
    private int wrong = 0;

    Check(String name) {
        this.name = name;
    }

    void due(String call, long got, long want) {
        asked++;
        if (got != want) {
            wrong++;
            System.out.println(name + ": " + call + " answered " + got + ", due is " + want);
        }
    }

    /** The call was refused by this finding, and told so. */
    void dueFinding(String call, PaperWalls walls, int got, int finding) {
        due(call, got, PaperWalls.FINDING);
        due(call + ", finding()", walls.finding(), finding);
    }

    /** The call answered so, and this is what it told. */
    void dueTold(String call, PaperWalls walls, int got, int want, int told) {
        due(call, got, want);
        due(call + ", asked()", walls.asked(), told);
    }

    void end() {
        System.out.println(name + ": " + asked + " answers, " + wrong + " not as due");
        if (wrong != 0) {
            System.exit(1);
        }
    }
}
