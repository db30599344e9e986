/** Counts the answers that are not as due; a test class ends with exit code 1 if there was one. */
final class Check {
    private final String test;
    private int asked;
    private int wrong;

    Check(String test) {
        this.test = test;
    }

    void due(String call, long got, long want) {
        asked++;
        if (got != want) {
            wrong++;
            System.out.println(test + ": " + call + " answered " + got + ", due is " + want);
        }
    }

    void due(String call, boolean got, boolean want) {
        due(call, got ? 1 : 0, want ? 1 : 0);
    }

    /** made(0) to made(3): layers made, rows made, layers held, rows held. */
    void made(String when, StackYard yard, int layers, int rows, int layersHeld, int rowsHeld) {
        due(when + ": made(0)", yard.made(0), layers);
        due(when + ": made(1)", yard.made(1), rows);
        due(when + ": made(2)", yard.made(2), layersHeld);
        due(when + ": made(3)", yard.made(3), rowsHeld);
    }

    void throwsIndex(String call, StackYard yard, int k, int what) {
        boolean thrown = false;
        try {
            yard.fallen(k, what);
        } catch (IndexOutOfBoundsException e) {
            // of that very class: the machine's own for a list's index is one below it
            thrown = e.getClass() == IndexOutOfBoundsException.class;
        }
        due(call + " throws", thrown, true);
    }

    void end() {
        System.out.println(test + ": " + asked + " answers, " + wrong + " wrong");
        if (wrong != 0) {
            System.exit(1);
        }
    }
}
