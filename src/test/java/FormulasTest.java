/** Promises 7 to 10 on ordinary inputs: condition, not, join, discard. FormulaEdgesTest has the edges. */
public final class FormulasTest {
    private static final int TOO_FEW = RealSigns.TOO_FEW;

    private final Due due = new Due();

    public static void main(String[] args) {
        FormulasTest test = new FormulasTest();
        test.promise7EachSet();
        test.promise7EachPolynomial();
        test.promise8Not();
        test.promise9Join();
        test.promise10Discard();
        test.due.end();
    }

    private void promise7EachSet() {
        RealSigns x = Given.oneMark();
        for (int s = 0; s <= 7; s++) {
            due.is("condition(0, " + s + ")", x.condition(0, s), s + 1);
            due.holds(x, s & 1, s >> 1 & 1, s >> 2 & 1);
        }
    }

    private void promise7EachPolynomial() {
        RealSigns x = new RealSigns();
        for (int k = 0; k < 4; k++) {
            x.set(k, 0, 1, -k);
        }
        for (int k = 0; k < 4; k++) {
            x.condition(k, 2);
            for (int i = 0; i < 9; i++) {
                due.is("holds(" + i + ") of condition(" + k + ", 2)", x.holds(i), i == 2 * k + 1 ? 1 : 0);
            }
        }
    }

    private void promise8Not() {
        RealSigns x = Given.oneMark();
        x.condition(0, 7);
        x.condition(0, 1);
        due.is("not()", x.not(), 2);
        due.holds(x, 0, 1, 1);
        due.is("not()", x.not(), 2);
        due.holds(x, 1, 0, 0);
        x.join(0);
        due.holds(x, 1, 0, 0);
        due.is("not()", x.not(), 1);
        due.holds(x, 0, 1, 1);
    }

    private void promise9Join() {
        for (int left = 0; left < 8; left++) {
            for (int right = 0; right < 8; right++) {
                joinTwo(left, right, 0, left & right);
                joinTwo(left, right, 1, left | right);
            }
        }
        RealSigns y = Given.oneMark();
        y.condition(0, 4);
        y.condition(0, 3);
        y.condition(0, 6);
        due.is("join(0)", y.join(0), 2);
        due.holds(y, 0, 1, 0);
        due.is("join(1)", y.join(1), 1);
        due.holds(y, 0, 1, 1);
    }

    private void joinTwo(int left, int right, int op, int want) {
        RealSigns x = Given.oneMark();
        x.condition(0, left);
        x.condition(0, right);
        due.is("join(" + op + ")", x.join(op), 1);
        due.holds(x, want & 1, want >> 1 & 1, want >> 2 & 1);
    }

    private void promise10Discard() {
        RealSigns x = Given.oneMark();
        due.is("discard() of none", x.discard(), 0);
        for (int n = 0; n < 3; n++) {
            x.condition(0, 7);
        }
        due.is("discard() of three", x.discard(), 3);
        due.is("discard() again", x.discard(), 0);
        due.is("every() behind discard()", x.every(), TOO_FEW);
        due.is("marks() behind discard()", x.marks(), 1);
        due.is("condition(0, 4)", x.condition(0, 4), 1);
        due.is("condition(0, 1)", x.condition(0, 1), 2);
        due.holds(x, 1, 0, 0);
        due.is("join(1)", x.join(1), 1);
        due.is("discard() counts what is on the stack", x.discard(), 1);
    }
}
