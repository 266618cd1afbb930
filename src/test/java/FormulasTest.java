/** Promises 7 to 10: condition, not, join, discard. */
public final class FormulasTest {
    private static final int BAD_ARG = RealSigns.BAD_ARG;
    private static final int FULL = RealSigns.FULL;
    private static final int TOO_FEW = RealSigns.TOO_FEW;

    private final Due due = new Due();

    public static void main(String[] args) {
        FormulasTest test = new FormulasTest();
        test.promise7EachSet();
        test.promise7EachPolynomial();
        test.promise7Refused();
        test.promise8Not();
        test.promise8Refused();
        test.promise9Join();
        test.promise9Refused();
        test.fullCountsWhatWasMade();
        test.refusedCallsMakeNothing();
        test.promise10Discard();
        test.due.end();
    }

    private static RealSigns line() {
        RealSigns x = new RealSigns();
        x.set(0, 0, 1, 0);
        return x;
    }

    private void promise7EachSet() {
        RealSigns x = line();
        for (int s = 0; s <= 7; s++) {
            due.is("condition(0, " + s + ")", x.condition(0, s), s + 1);
            due.holds(x, s & 1, s >> 1 & 1, s >> 2 & 1);
        }
    }

    private void promise7EachPolynomial() {
        RealSigns x = new RealSigns();
        for (int k = 0; k < 4; k++) {
            x.set(k, 0, 1, -k);
        }
        for (int k = 0; k < 4; k++) {
            x.condition(k, 2);
            for (int i = 0; i < 9; i++) {
                due.is("holds(" + i + ") of condition(" + k + ", 2)", x.holds(i), i == 2 * k + 1 ? 1 : 0);
            }
        }
    }

    private void promise7Refused() {
        RealSigns x = line();
        for (int wild : new int[] {Integer.MIN_VALUE, -1, 8, Integer.MAX_VALUE}) {
            due.is("condition(" + wild + ", 1)", x.condition(wild, 1), BAD_ARG);
            due.is("condition(0, " + wild + ")", x.condition(0, wild), BAD_ARG);
        }
        due.is("condition(4, 1)", x.condition(4, 1), BAD_ARG);
        due.is("discard() after refused conditions", x.discard(), 0);
        for (int n = 1; n <= 16; n++) {
            due.is("condition " + n, x.condition(3, 7), n);
        }
        due.is("condition 17", x.condition(0, 0), FULL);
        due.is("condition(4, 0): BAD_ARG is before FULL", x.condition(4, 0), BAD_ARG);
        due.is("condition(0, 8): BAD_ARG is before FULL", x.condition(0, 8), BAD_ARG);
        due.is("every() after FULL", x.every(), 1);
        due.is("discard() after FULL", x.discard(), 16);
    }

    private void promise8Not() {
        RealSigns x = line();
        x.condition(0, 7);
        x.condition(0, 1);
        due.is("not()", x.not(), 2);
        due.holds(x, 0, 1, 1);
        due.is("not()", x.not(), 2);
        due.holds(x, 1, 0, 0);
        x.join(0);
        due.holds(x, 1, 0, 0);
        due.is("not()", x.not(), 1);
        due.holds(x, 0, 1, 1);
    }

    private void promise8Refused() {
        RealSigns x = line();
        due.is("not() on an empty stack", x.not(), TOO_FEW);
        x.condition(0, 1);
        for (int n = 0; n < 15; n++) {
            due.is("not()", x.not(), 1);
        }
        due.is("not() as the 17th", x.not(), FULL);
        due.holds(x, 0, 1, 1);
        x.discard();
        due.is("not() on an emptied stack", x.not(), TOO_FEW);
    }

    private void promise9Join() {
        for (int left = 0; left < 8; left++) {
            for (int right = 0; right < 8; right++) {
                joinTwo(left, right, 0, left & right);
                joinTwo(left, right, 1, left | right);
            }
        }
        RealSigns y = line();
        y.condition(0, 4);
        y.condition(0, 3);
        y.condition(0, 6);
        due.is("join(0)", y.join(0), 2);
        due.holds(y, 0, 1, 0);
        due.is("join(1)", y.join(1), 1);
        due.holds(y, 0, 1, 1);
    }

    private void joinTwo(int left, int right, int op, int want) {
        RealSigns x = line();
        x.condition(0, left);
        x.condition(0, right);
        due.is("join(" + op + ")", x.join(op), 1);
        due.holds(x, want & 1, want >> 1 & 1, want >> 2 & 1);
    }

    private void promise9Refused() {
        RealSigns x = line();
        for (int op : new int[] {Integer.MIN_VALUE, -1, 2, Integer.MAX_VALUE}) {
            due.is("join(" + op + "): BAD_ARG is before TOO_FEW", x.join(op), BAD_ARG);
        }
        due.is("join(0) of none", x.join(0), TOO_FEW);
        x.condition(0, 1);
        due.is("join(1) of one", x.join(1), TOO_FEW);
        due.is("join(0) of one", x.join(0), TOO_FEW);
        due.holds(x, 1, 0, 0);
        for (int n = 0; n < 15; n++) {
            x.not();
        }
        due.is("join(0) of one: FULL is before TOO_FEW", x.join(0), FULL);
        due.is("join(2): BAD_ARG is before FULL", x.join(2), BAD_ARG);
        due.is("discard()", x.discard(), 1);
    }

    private void fullCountsWhatWasMade() {
        RealSigns x = line();
        for (int n = 0; n < 8; n++) {
            x.condition(0, 1 << n % 3);
        }
        for (int n = 7; n >= 1; n--) {
            due.is("join(1)", x.join(1), n);
        }
        due.is("not() as the 16th", x.not(), 1);
        due.is("condition as the 17th", x.condition(0, 1), FULL);
        due.is("not() as the 17th", x.not(), FULL);
        due.is("some()", x.some(), 0);
        due.is("discard()", x.discard(), 1);
        due.is("condition after discard()", x.condition(0, 1), 1);
        due.holds(x, 1, 0, 0);
    }

    private void refusedCallsMakeNothing() {
        RealSigns x = line();
        for (int n = 0; n < 20; n++) {
            x.not();
            x.join(0);
            x.condition(4, 0);
            x.condition(0, 8);
        }
        x.condition(0, 4);
        for (int n = 0; n < 20; n++) {
            x.join(1);
            x.join(9);
            x.some();
            x.same();
            x.holds(9);
        }
        for (int n = 2; n <= 16; n++) {
            due.is("condition " + n, x.condition(0, 0), n);
        }
        due.is("condition 17", x.condition(0, 0), FULL);
        due.is("discard()", x.discard(), 16);
    }

    private void promise10Discard() {
        RealSigns x = line();
        due.is("discard() of none", x.discard(), 0);
        for (int n = 0; n < 3; n++) {
            x.condition(0, 7);
        }
        due.is("discard() of three", x.discard(), 3);
        due.is("discard() again", x.discard(), 0);
        due.is("every() behind discard()", x.every(), TOO_FEW);
        due.is("marks() behind discard()", x.marks(), 1);
        due.is("condition(0, 4)", x.condition(0, 4), 1);
        due.is("condition(0, 1)", x.condition(0, 1), 2);
        due.holds(x, 1, 0, 0);
        due.is("join(1)", x.join(1), 1);
        due.is("discard() counts what is on the stack", x.discard(), 1);
    }
}
