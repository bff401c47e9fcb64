/** What the tests of the project share: it prints each answer that is not as due, and counts them. */
final class Check {
    private final String test;
    private int done = 0;
    private int wrong = 0;

    Check(String test) {
        this.test = test;
    }

    void due(String call, long got, long want) {
        done++;
        if (got != want) {
            wrong++;
            if (wrong <= 40) {
                System.out.println(test + ": " + call + " answered " + got + ", due is " + want);
            }
        }
    }

    void holds(String what, boolean holds) {
        due(what, holds ? 1 : 0, 1);
    }

    boolean isClean() {
        return wrong == 0;
    }

    /** Ends the test, with exit code 1 if an answer was wrong. */
    void end() {
        System.out.println(test + ": " + done + " checks, " + wrong + " wrong");
        if (wrong != 0 || done == 0) {
            System.exit(1);
        }
    }

    static void write(BarredTurns x, String text) {
        for (int i = 0; i < text.length(); i++) {
            x.letter(text.charAt(i));
        }
    }

    /** A new object that has read the roads of a text. */
    static BarredTurns read(String text) {
        BarredTurns x = new BarredTurns();
        write(x, text);
        x.roads();
        return x;
    }
}
