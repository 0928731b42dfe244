/** Shows to begin with, and what is asked of their rows. */
final class Shows {
    private Shows() {
    }

    /** A show with so many plain BEASTS, the handler and the sire of each its number (its last digit). */
    static CattleShow of(int beasts) {
        CattleShow show = new CattleShow();
        for (int b = 0; b < beasts; b++) {
            show.beast(b % 4, 10 * b, b % 10, b % 10);
        }
        return show;
    }

    /** The same with as many as can be of them in CLASS 0. */
    static CattleShow withClass(int beasts) {
        CattleShow show = of(beasts);
        for (int b = 0; b < beasts; b++) {
            show.enter(0, b);
        }
        return show;
    }

    static void enterAll(CattleShow show, int c, int... beasts) {
        for (int b : beasts) {
            show.enter(c, b);
        }
    }

    static void protestAll(CattleShow show, int c, int... beasts) {
        for (int b : beasts) {
            show.protest(c, b);
        }
    }

    /** This row stands in the PLACES of the CLASS, and nothing ahead of it or behind it. */
    static void dueRow(String what, CattleShow show, int c, int... row) {
        Check.due(what + ", ahead of the first", show.placed(c, 0), -1);
        for (int i = 0; i < row.length; i++) {
            Check.due(what + ", place " + (i + 1), show.placed(c, i + 1), row[i]);
        }
        Check.due(what + ", behind the last", show.placed(c, row.length + 1), -1);
    }

    static void dueHours(CattleShow show, int... hours) {
        for (int c = 0; c < hours.length; c++) {
            Check.due("hour of class " + c, show.hour(c), hours[c]);
        }
    }
}
