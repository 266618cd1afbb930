/** Holds answers against those that are due, and ends the test with exit code 1 if one was wrong. */
final class Due {
    private static final int MOST_PRINTED = 50;
    private String sentence = "";
    private int looked = 0;
    private int wrong = 0;

    /** The answers from here on stand for these words of the document; a wrong one is told with them. */
    void sentence(String words) {
        sentence = " (" + words + ")";
    }

    void is(String call, int got, int want) {
        looked++;
        if (got == want) {
            return;
        }
        wrong++;
        // A broken class would otherwise flood the log from the tests that compare by the million.
        if (wrong <= MOST_PRINTED) {
            System.out.println(call + " answered " + got + ", due is " + want + sentence);
        }
    }

    /** Asks sign(k, i) for i from 0 on, and that there is no cell behind the last one. */
    void signs(RealSigns x, int k, int... want) {
        for (int i = 0; i < want.length; i++) {
            is("sign(" + k + ", " + i + ")", x.sign(k, i), want[i]);
        }
        is("sign(" + k + ", " + want.length + ")", x.sign(k, want.length), RealSigns.NONE);
        is("sign(" + k + ", -1)", x.sign(k, -1), RealSigns.NONE);
    }

    /** Asks holds(i) for i from 0 on, and that there is no cell behind the last one. */
    void holds(RealSigns x, int... want) {
        for (int i = 0; i < want.length; i++) {
            is("holds(" + i + ")", x.holds(i), want[i]);
        }
        is("holds(" + want.length + ")", x.holds(want.length), RealSigns.NONE);
        is("holds(-1)", x.holds(-1), RealSigns.NONE);
    }

    /** Asks the four questions about the topmost formula that take no argument. */
    void about(RealSigns x, int some, int every, int pieces, int points) {
        is("some()", x.some(), some);
        is("every()", x.every(), every);
        is("pieces()", x.pieces(), pieces);
        is("points()", x.points(), points);
    }

    void end() {
        System.out.println(looked + " answers, " + wrong + " not as due");
        if (wrong != 0 || looked == 0) {
            System.exit(1);
        }
    }
}
