/** Compares answers with the ones that are due, and tells each that differs. */
final class Answers {
    private int wrong = 0;
    private int looked = 0;

    void due(String what, int got, int want) {
        looked++;
        if (got != want) {
            wrong++;
            System.out.println(what + " answered " + got + ", due is " + want);
        }
    }

    void dueTrue(String what, boolean holds) {
        looked++;
        if (!holds) {
            wrong++;
            System.out.println("does not hold: " + what);
        }
    }

    boolean anyWrong() {
        return wrong > 0;
    }

    void end() {
        System.out.println(looked + " answers looked at, " + wrong + " wrong");
        if (wrong > 0 || looked == 0) {
            System.exit(1);
        }
    }
}
