/** Counts the answers of a test that are not as due, and ends it. */
final class Check {
    private final String name;
    private String sentence = "";
    private int asked = 0;
    private int wrong = 0;

    Check(String name) {
        this.name = name;
    }

    /** The answers behind this are due by these words of a promise (0: of the terms). */
    void by(int promise, String words) {
        sentence = " (" + (promise == Document.TERMS ? "terms" : "promise " + promise) + ": " + words + ")";
        boolean isQuoted = !Document.isHere() || Document.promise(promise).contains(words);
        due("'" + words + "' is in the document", isQuoted ? 1 : 0, 1);
    }

    void due(String call, long got, long want) {
        asked++;
        if (got != want) {
            wrong++;
            System.out.println(name + ": " + call + " answered " + got + ", due is " + want + sentence);
        }
    }

    /** The call was refused by this finding, and told so. */
    void dueFinding(String call, PaperWalls walls, int got, int finding) {
        due(call, got, PaperWalls.FINDING);
        due(call + ", finding()", walls.finding(), finding);
    }

    /** The call answered so, and this is what it told. */
    void dueTold(String call, PaperWalls walls, int got, int want, int told) {
        due(call, got, want);
        due(call + ", asked()", walls.asked(), told);
    }

    /** A row is just these ints. */
    void dueRow(String call, PaperWalls walls, int r, int... ints) {
        due(call + ", row " + r, Streets.isRow(walls, r, ints) ? 1 : 0, 1);
    }

    void end() {
        System.out.println(name + ": " + asked + " answers, " + wrong + " not as due");
        if (wrong != 0) {
            System.exit(1);
        }
    }
}
