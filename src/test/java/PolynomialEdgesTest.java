/** The sentences of "Terms" and of promises 1 to 6 that name a boundary case, one method for each. */
public final class PolynomialEdgesTest {
    private static final int BAD_ARG = RealSigns.BAD_ARG;
    private static final int NONE = RealSigns.NONE;
    private static final int TOO_FEW = RealSigns.TOO_FEW;

    private final Due due = new Due();

    public static void main(String[] args) {
        PolynomialEdgesTest test = new PolynomialEdgesTest();
        test.termsGreatestCoefficients();
        test.termsGreatestZeros();
        test.termsMarksOfZeroForAllX();
        test.termsNoMarks();
        test.termsMostMarks();
        test.termsFirstAndLastCell();
        test.promise1AllAreZero();
        test.promise1StackIsEmpty();
        test.promise2K();
        test.promise2Coefficients();
        test.promise2SeveralWrong();
        test.promise3FromNoneToMost();
        test.promise3MarksInCommon();
        test.promise4K();
        test.promise4Cells();
        test.promise4Order();
        test.promise5P();
        test.promise5Q();
        test.promise5BothWrong();
        test.promise5BesideAMark();
        test.promise6ZeroForAllX();
        test.promise6K();
        test.promise6ZerosInCommon();
        test.due.end();
    }

    private void termsGreatestCoefficients() {
        due.sentence("Terms: with whole numbers a, b, c from -30 to 30");
        int[] edges = {-30, 0, 30};
        for (int k = 0; k < 4; k++) {
            RealSigns x = new RealSigns();
            for (int a : edges) {
                for (int b : edges) {
                    for (int c : edges) {
                        oneOfGreatest(x, k, a, b, c);
                    }
                }
            }
        }
    }

    private void oneOfGreatest(RealSigns x, int k, int a, int b, int c) {
        String call = "set(" + k + ", " + a + ", " + b + ", " + c + ")";
        int under = b * b - 4 * a * c;
        int zeros = a != 0 ? Integer.signum(under) + 1 : b != 0 ? 1 : 0;
        int left = a != 0 ? a : b != 0 ? -b : c;
        int right = a != 0 ? a : b != 0 ? b : c;
        due.is(call, x.set(k, a, b, c), 0);
        due.is("marks() behind " + call, x.marks(), zeros);
        due.is("zeros(k) behind " + call, x.zeros(k), zeros);
        due.is("sign on the first cell behind " + call, x.sign(k, 0), Integer.signum(left));
        due.is("sign on the last cell behind " + call, x.sign(k, 2 * zeros), Integer.signum(right));
        due.is("sign at 0 behind " + call, x.sign(k, x.cellOf(0, 1)), Integer.signum(c));
        due.is("sign at 1 behind " + call, x.sign(k, x.cellOf(1, 1)), Integer.signum(a + b + c));
        due.is("sign at -1 behind " + call, x.sign(k, x.cellOf(-1, 1)), Integer.signum(a - b + c));
    }

    private void termsGreatestZeros() {
        due.sentence("Terms: with whole numbers a, b, c from -30 to 30");
        RealSigns x = new RealSigns();
        // The zeros farthest out are 15 and the root of 255 to both sides, some 30.97.
        x.set(0, 1, -30, -30);
        x.set(1, -1, -30, 30);
        x.set(2, 0, 1, 30);
        x.set(3, 0, -1, 30);
        due.is("marks()", x.marks(), 6);
        due.is("cellOf(-31, 1)", x.cellOf(-31, 1), 0);
        due.is("cellOf(-92, 3)", x.cellOf(-92, 3), 2);
        due.is("cellOf(-30, 1)", x.cellOf(-30, 1), 3);
        due.is("cellOf(-29, 1)", x.cellOf(-29, 1), 4);
        due.is("cellOf(0, 1)", x.cellOf(0, 1), 6);
        due.is("cellOf(29, 1)", x.cellOf(29, 1), 8);
        due.is("cellOf(30, 1)", x.cellOf(30, 1), 9);
        due.is("cellOf(92, 3)", x.cellOf(92, 3), 10);
        due.is("cellOf(31, 1)", x.cellOf(31, 1), 12);
        due.signs(x, 0, 1, 1, 1, 1, 1, 0, -1, -1, -1, -1, -1, 0, 1);
        due.signs(x, 1, -1, 0, 1, 1, 1, 1, 1, 0, -1, -1, -1, -1, -1);
        due.signs(x, 2, -1, -1, -1, 0, 1, 1, 1, 1, 1, 1, 1, 1, 1);
        due.signs(x, 3, 1, 1, 1, 1, 1, 1, 1, 1, 1, 0, -1, -1, -1);
    }

    private void termsMarksOfZeroForAllX() {
        due.sentence("Terms: if some polynomial that is not 0 for all x is 0 there");
        RealSigns x = new RealSigns();
        for (int k = 0; k < 4; k++) {
            due.is("set to 0", x.set(k, 0, 0, 0), 0);
            due.is("marks() with all 0 for all x", x.marks(), 0);
        }
        x.set(2, 0, 1, 0);
        due.is("marks() with x beside three that are 0 for all x", x.marks(), 1);
        due.signs(x, 1, 0, 0, 0);
        due.signs(x, 2, -1, 0, 1);
        x.set(2, 0, 0, 0);
        due.is("marks() when x is gone", x.marks(), 0);
        due.signs(x, 2, 0);
    }

    private void termsNoMarks() {
        due.sentence("Terms: with no marks the whole line is cell 0");
        RealSigns x = new RealSigns();
        x.set(0, 0, 0, 1);
        x.set(1, 1, 0, 1);
        x.set(2, -30, 1, -30);
        due.is("marks()", x.marks(), 0);
        due.is("cellOf(-100, 1)", x.cellOf(-100, 1), 0);
        due.is("cellOf(0, 1)", x.cellOf(0, 1), 0);
        due.is("cellOf(100, 1)", x.cellOf(100, 1), 0);
        due.signs(x, 0, 1);
        due.signs(x, 1, 1);
        due.signs(x, 2, -1);
        due.signs(x, 3, 0);
    }

    private void termsMostMarks() {
        due.sentence("Terms: the marks divide the line into cells (two marks for each polynomial)");
        RealSigns x = Given.eightMarks();
        due.is("marks()", x.marks(), 8);
        int[] marks = {-4, -3, -2, -1, 1, 2, 3, 4};
        for (int m = 0; m < 8; m++) {
            int mark = marks[m];
            due.is("cellOf before mark " + m, x.cellOf(10 * mark - 1, 10), 2 * m);
            due.is("cellOf at mark " + m, x.cellOf(mark, 1), 2 * m + 1);
            due.is("cellOf behind mark " + m, x.cellOf(10 * mark + 1, 10), 2 * m + 2);
        }
        due.signs(x, 0, 1, 1, 1, 1, 1, 1, 1, 0, -1, 0, 1, 1, 1, 1, 1, 1, 1);
        due.signs(x, 1, 1, 1, 1, 1, 1, 0, -1, -1, -1, -1, -1, 0, 1, 1, 1, 1, 1);
        due.signs(x, 2, 1, 1, 1, 0, -1, -1, -1, -1, -1, -1, -1, -1, -1, 0, 1, 1, 1);
        due.signs(x, 3, 1, 0, -1, -1, -1, -1, -1, -1, -1, -1, -1, -1, -1, -1, -1, 0, 1);
    }

    private void termsFirstAndLastCell() {
        due.sentence("Terms: the open piece before the first mark; the last one is behind the last mark");
        RealSigns x = Given.eightMarks();
        due.is("cellOf(-100, 1)", x.cellOf(-100, 1), 0);
        due.is("cellOf(100, 1)", x.cellOf(100, 1), 16);
        RealSigns y = Given.oneMark();
        due.is("cellOf(-1, 100)", y.cellOf(-1, 100), 0);
        due.is("cellOf(0, 100)", y.cellOf(0, 100), 1);
        due.is("cellOf(1, 100)", y.cellOf(1, 100), 2);
    }

    private void promise1AllAreZero() {
        due.sentence("Promise 1: All polynomials are 0");
        RealSigns x = new RealSigns();
        due.is("marks()", x.marks(), 0);
        for (int k = 0; k < 4; k++) {
            due.signs(x, k, 0);
            due.is("zeros(" + k + ")", x.zeros(k), 0);
            x.condition(k, 2);
            due.is("every() of polynomial " + k + " is 0", x.every(), 1);
        }
    }

    private void promise1StackIsEmpty() {
        due.sentence("Promise 1: the stack is empty");
        RealSigns x = new RealSigns();
        due.is("some()", x.some(), TOO_FEW);
        due.is("same()", x.same(), TOO_FEW);
        due.is("not()", x.not(), TOO_FEW);
        due.is("join(0)", x.join(0), TOO_FEW);
        due.is("discard()", x.discard(), 0);
        due.is("condition(0, 2)", x.condition(0, 2), 1);
        due.is("the stack of a second object", new RealSigns().discard(), 0);
    }

    private void promise2K() {
        due.sentence("Promise 2: BAD_ARG if k is not 0 to 3");
        RealSigns x = new RealSigns();
        for (int k = 0; k <= 3; k++) {
            due.is("set(" + k + ", 0, 1, " + -k + ")", x.set(k, 0, 1, -k), 0);
        }
        for (int k : Given.outside(0, 3)) {
            due.is("set(" + k + ", 1, 1, 1)", x.set(k, 1, 1, 1), BAD_ARG);
        }
        for (int k = 0; k <= 3; k++) {
            due.is("sign of polynomial " + k + " at its mark", x.sign(k, 2 * k + 1), 0);
        }
        due.is("marks()", x.marks(), 4);
    }

    private void promise2Coefficients() {
        due.sentence("Promise 2: BAD_ARG if a, b or c is not -30 to 30");
        RealSigns x = new RealSigns();
        x.set(0, 1, -3, 2);
        for (int v : Given.outside(-30, 30)) {
            due.is("set(0, " + v + ", 5, 5)", x.set(0, v, 5, 5), BAD_ARG);
            due.is("set(0, 5, " + v + ", 5)", x.set(0, 5, v, 5), BAD_ARG);
            due.is("set(0, 5, 5, " + v + ")", x.set(0, 5, 5, v), BAD_ARG);
        }
        due.signs(x, 0, 1, 0, -1, 0, 1);
        due.is("cellOf(1, 1)", x.cellOf(1, 1), 1);
        due.is("cellOf(2, 1)", x.cellOf(2, 1), 3);
        for (int v : new int[] {-30, 30}) {
            int s = Integer.signum(v);
            due.is("set(0, " + v + ", 0, 0)", x.set(0, v, 0, 0), 0);
            due.signs(x, 0, s, 0, s);
            due.is("set(0, 0, " + v + ", 0)", x.set(0, 0, v, 0), 0);
            due.signs(x, 0, -s, 0, s);
            due.is("set(0, 0, 0, " + v + ")", x.set(0, 0, 0, v), 0);
            due.signs(x, 0, s);
        }
    }

    private void promise2SeveralWrong() {
        due.sentence("Promise 2: BAD_ARG if k is not 0 to 3 or a, b or c is not -30 to 30");
        RealSigns x = Given.oneMark();
        due.is("set(4, 31, 31, 31)", x.set(4, 31, 31, 31), BAD_ARG);
        due.is("set(-1, -31, 0, 0)", x.set(-1, -31, 0, 0), BAD_ARG);
        due.is("set(0, 31, -31, 0)", x.set(0, 31, -31, 0), BAD_ARG);
        due.is("set(0, 0, 31, -31)", x.set(0, 0, 31, -31), BAD_ARG);
        due.signs(x, 0, -1, 0, 1);
    }

    private void promise3FromNoneToMost() {
        due.sentence("Promise 3: The number of marks");
        RealSigns x = new RealSigns();
        due.is("marks() of a new object", x.marks(), 0);
        for (int k = 0; k < 4; k++) {
            x.set(k, 0, 1, k + 1);
            due.is("marks() behind a line", x.marks(), 2 * k + 1);
            x.set(k, 1, 0, -(k + 1) * (k + 1));
            due.is("marks() behind a parabola", x.marks(), 2 * k + 2);
        }
        for (int k = 0; k < 4; k++) {
            due.is("marks() on the way back", x.marks(), 8 - 2 * k);
            x.set(k, 0, 0, 1);
        }
        due.is("marks() with none left", x.marks(), 0);
    }

    private void promise3MarksInCommon() {
        due.sentence("Promise 3: The number of marks (a real number is one mark, whoever is 0 there)");
        RealSigns x = new RealSigns();
        for (int k = 0; k < 4; k++) {
            x.set(k, k + 1, 0, -2 * (k + 1));
        }
        due.is("marks() of four with the same zeros", x.marks(), 2);
        x.set(0, 1, 2, 1);
        x.set(1, 30, 30, 0);
        x.set(2, 0, -30, -30);
        x.set(3, 1, 0, -1);
        due.is("marks() of four with -1 in common", x.marks(), 3);
        x.set(0, 4, 4, -1);
        x.set(1, -4, -4, 1);
        x.set(2, 28, 28, -7);
        x.set(3, 0, 5, -1);
        due.is("marks() of three with two in common, and 1 / 5", x.marks(), 3);
    }

    private void promise4K() {
        due.sentence("Promise 4: k not 0 to 3 answers BAD_ARG");
        RealSigns x = Given.eightMarks();
        for (int k = 0; k <= 3; k++) {
            due.is("sign(" + k + ", 8)", x.sign(k, 8), -1);
        }
        for (int k : Given.outside(0, 3)) {
            due.is("sign(" + k + ", 0)", x.sign(k, 0), BAD_ARG);
        }
    }

    private void promise4Cells() {
        due.sentence("Promise 4: there is no cell i answers NONE");
        RealSigns none = new RealSigns();
        due.is("sign(0, 0) with no marks", none.sign(0, 0), 0);
        noSignOutside(none, 0);
        RealSigns one = Given.oneMark();
        due.is("sign(0, 0) with one mark", one.sign(0, 0), -1);
        due.is("sign(0, 2) with one mark", one.sign(0, 2), 1);
        noSignOutside(one, 2);
        RealSigns most = Given.eightMarks();
        due.is("sign(0, 0) with eight marks", most.sign(0, 0), 1);
        due.is("sign(0, 16) with eight marks", most.sign(0, 16), 1);
        noSignOutside(most, 16);
        most.set(3, 0, 0, 1);
        due.is("sign(0, 12) when two marks went", most.sign(0, 12), 1);
        noSignOutside(most, 12);
    }

    private void noSignOutside(RealSigns x, int last) {
        for (int k = 0; k <= 3; k++) {
            for (int i : Given.outside(0, last)) {
                due.is("sign(" + k + ", " + i + ")", x.sign(k, i), NONE);
            }
        }
    }

    private void promise4Order() {
        due.sentence("Promise 4: Tested in this order: BAD_ARG, NONE");
        RealSigns x = Given.oneMark();
        for (int k : Given.outside(0, 3)) {
            for (int i : Given.outside(0, 2)) {
                due.is("sign(" + k + ", " + i + ")", x.sign(k, i), BAD_ARG);
            }
        }
    }

    private void promise5P() {
        due.sentence("Promise 5: BAD_ARG if p is not -100 to 100");
        RealSigns x = Given.oneMark();
        due.is("cellOf(-100, 7)", x.cellOf(-100, 7), 0);
        due.is("cellOf(100, 7)", x.cellOf(100, 7), 2);
        for (int p : Given.outside(-100, 100)) {
            due.is("cellOf(" + p + ", 7)", x.cellOf(p, 7), BAD_ARG);
        }
    }

    private void promise5Q() {
        due.sentence("Promise 5: BAD_ARG if q not 1 to 100");
        RealSigns x = new RealSigns();
        x.set(0, 0, 20, -1);
        due.is("cellOf(5, 1)", x.cellOf(5, 1), 2);
        due.is("cellOf(5, 99)", x.cellOf(5, 99), 2);
        due.is("cellOf(5, 100)", x.cellOf(5, 100), 1);
        due.is("cellOf(4, 100)", x.cellOf(4, 100), 0);
        for (int q : Given.outside(1, 100)) {
            due.is("cellOf(5, " + q + ")", x.cellOf(5, q), BAD_ARG);
            due.is("cellOf(0, " + q + ")", x.cellOf(0, q), BAD_ARG);
        }
        due.is("cellOf(-5, -100)", x.cellOf(-5, -100), BAD_ARG);
        due.is("cellOf(-5, -1)", x.cellOf(-5, -1), BAD_ARG);
    }

    private void promise5BothWrong() {
        due.sentence("Promise 5: BAD_ARG if p is not -100 to 100 or q not 1 to 100");
        RealSigns x = Given.oneMark();
        for (int p : Given.outside(-100, 100)) {
            for (int q : Given.outside(1, 100)) {
                due.is("cellOf(" + p + ", " + q + ")", x.cellOf(p, q), BAD_ARG);
            }
        }
    }

    private void promise5BesideAMark() {
        due.sentence("Promise 5: The number of the cell that has the number p / q");
        RealSigns x = new RealSigns();
        // The zeros are -1.61803.. and 0.61803.., the fractions their nearest ones on both sides.
        x.set(3, 30, 30, -30);
        due.is("cellOf(-89, 55)", x.cellOf(-89, 55), 0);
        due.is("cellOf(-55, 34)", x.cellOf(-55, 34), 2);
        due.is("cellOf(55, 89)", x.cellOf(55, 89), 2);
        due.is("cellOf(34, 55)", x.cellOf(34, 55), 4);
        x.set(3, 0, -30, 29);
        due.is("cellOf(28, 29)", x.cellOf(28, 29), 0);
        due.is("cellOf(86, 89)", x.cellOf(86, 89), 0);
        due.is("cellOf(87, 90)", x.cellOf(87, 90), 1);
        due.is("cellOf(29, 30)", x.cellOf(29, 30), 1);
        due.is("cellOf(88, 91)", x.cellOf(88, 91), 2);
        due.is("cellOf(30, 31)", x.cellOf(30, 31), 2);
    }

    private void promise6ZeroForAllX() {
        due.sentence("Promise 6: if it is not 0 for all x (0 if it is)");
        RealSigns x = Given.oneMark();
        due.is("zeros(1) of 0, where another one has a mark", x.zeros(1), 0);
        due.is("zeros(0) of x", x.zeros(0), 1);
        x.set(0, 0, 0, 0);
        due.is("zeros(0) of 0, once x", x.zeros(0), 0);
    }

    private void promise6K() {
        due.sentence("Promise 6: BAD_ARG if k is not 0 to 3");
        RealSigns x = new RealSigns();
        x.set(0, 1, 0, -2);
        x.set(1, 1, 0, 0);
        x.set(2, 1, 0, 1);
        x.set(3, 0, 1, -1);
        due.is("zeros(0)", x.zeros(0), 2);
        due.is("zeros(1)", x.zeros(1), 1);
        due.is("zeros(2)", x.zeros(2), 0);
        due.is("zeros(3)", x.zeros(3), 1);
        for (int k : Given.outside(0, 3)) {
            due.is("zeros(" + k + ")", x.zeros(k), BAD_ARG);
        }
    }

    private void promise6ZerosInCommon() {
        due.sentence("Promise 6: How many marks polynomial k is 0 at");
        RealSigns x = Given.eightMarks();
        for (int k = 0; k <= 3; k++) {
            due.is("zeros(" + k + ") of eight marks", x.zeros(k), 2);
        }
        x.set(1, 1, -2, 1);
        x.set(2, 0, -1, 1);
        x.set(3, -1, 1, 0);
        due.is("zeros(0) with 1 in common", x.zeros(0), 2);
        due.is("zeros(1) of a double zero in common", x.zeros(1), 1);
        due.is("zeros(2) of a line with its zero in common", x.zeros(2), 1);
        due.is("zeros(3) with 1 in common", x.zeros(3), 2);
    }
}
