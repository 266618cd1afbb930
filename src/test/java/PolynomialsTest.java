/** Promises 2 to 6 on ordinary inputs: set, marks, sign, cellOf, zeros. PolynomialEdgesTest has the edges. */
public final class PolynomialsTest {
    private final Due due = new Due();

    public static void main(String[] args) {
        PolynomialsTest test = new PolynomialsTest();
        test.promise2Set();
        test.promise3Marks();
        test.promise4Sign();
        test.promise4DoubleZeros();
        test.promise5CellOf();
        test.promise6Zeros();
        test.due.end();
    }

    private void promise2Set() {
        RealSigns x = new RealSigns();
        for (int k = 0; k < 4; k++) {
            due.is("set to 1", x.set(k, 0, 0, 1), 0);
            due.signs(x, k, 1);
        }
        due.is("set(2, 30, 30, 30)", x.set(2, 30, 30, 30), 0);
        due.signs(x, 2, 1);
        due.is("set(2, -30, -30, -30)", x.set(2, -30, -30, -30), 0);
        due.signs(x, 2, -1);
        due.is("set(2, 0, 0, 0)", x.set(2, 0, 0, 0), 0);
        due.signs(x, 2, 0);
        due.is("set(3, 1, 0, -1)", x.set(3, 1, 0, -1), 0);
        due.signs(x, 3, 1, 0, -1, 0, 1);
        due.signs(x, 1, 1, 1, 1, 1, 1);
        due.is("set(3, 0, 0, -1)", x.set(3, 0, 0, -1), 0);
        due.is("marks() after the zeros went", x.marks(), 0);
        due.signs(x, 3, -1);
    }

    private void promise3Marks() {
        RealSigns x = new RealSigns();
        x.set(0, 0, 0, 7);
        due.is("marks() of a constant", x.marks(), 0);
        x.set(0, 1, 0, 1);
        due.is("marks() of x x + 1", x.marks(), 0);
        x.set(0, 0, -2, 3);
        due.is("marks() of -2 x + 3", x.marks(), 1);
        x.set(1, 4, -12, 9);
        due.is("marks() with (2 x - 3) squared", x.marks(), 1);
        x.set(2, 1, 0, -2);
        due.is("marks() with x x - 2", x.marks(), 3);
        x.set(3, -3, 0, 6);
        due.is("marks() with -3 x x + 6", x.marks(), 3);
        x.set(0, 1, 0, -3);
        x.set(1, 1, 0, -5);
        x.set(3, 1, 0, -7);
        due.is("marks() of four with two zeros each", x.marks(), 8);
        x.set(0, 1, -1, -1);
        x.set(1, 1, 0, -1);
        x.set(2, 0, 1, -1);
        x.set(3, 2, -3, 1);
        due.is("marks() with 1 in common to three", x.marks(), 5);
    }

    private void promise4Sign() {
        RealSigns x = new RealSigns();
        x.set(0, -1, 0, 2);
        x.set(1, 0, 1, 0);
        x.set(2, 0, -1, 1);
        x.set(3, 1, -1, 0);
        due.signs(x, 0, -1, 0, 1, 1, 1, 1, 1, 0, -1);
        due.signs(x, 1, -1, -1, -1, 0, 1, 1, 1, 1, 1);
        due.signs(x, 2, 1, 1, 1, 1, 1, 0, -1, -1, -1);
        due.signs(x, 3, 1, 1, 1, 0, -1, 0, 1, 1, 1);
        x.set(0, 1, 0, -2);
        x.set(1, 1, 0, -3);
        x.set(2, 1, 0, -5);
        x.set(3, 1, 0, -7);
        due.signs(x, 3, 1, 0, -1, -1, -1, -1, -1, -1, -1, -1, -1, -1, -1, -1, -1, 0, 1);
        due.signs(x, 0, 1, 1, 1, 1, 1, 1, 1, 0, -1, 0, 1, 1, 1, 1, 1, 1, 1);
    }

    private void promise4DoubleZeros() {
        RealSigns x = new RealSigns();
        x.set(0, 1, 2, 1);
        x.set(1, -4, 4, -1);
        x.set(2, 0, 2, -1);
        x.set(3, 30, 0, 0);
        due.signs(x, 0, 1, 0, 1, 1, 1, 1, 1);
        due.signs(x, 1, -1, -1, -1, -1, -1, 0, -1);
        due.signs(x, 2, -1, -1, -1, -1, -1, 0, 1);
        due.signs(x, 3, 1, 1, 1, 0, 1, 1, 1);
    }

    private void promise5CellOf() {
        RealSigns x = new RealSigns();
        x.set(0, 1, 0, -2);
        x.set(1, 0, 3, -1);
        due.is("cellOf(-100, 1)", x.cellOf(-100, 1), 0);
        due.is("cellOf(-99, 70)", x.cellOf(-99, 70), 0);
        due.is("cellOf(-82, 58)", x.cellOf(-82, 58), 2);
        due.is("cellOf(-17, 12)", x.cellOf(-17, 12), 0);
        due.is("cellOf(33, 100)", x.cellOf(33, 100), 2);
        due.is("cellOf(1, 3)", x.cellOf(1, 3), 3);
        due.is("cellOf(33, 99)", x.cellOf(33, 99), 3);
        due.is("cellOf(34, 100)", x.cellOf(34, 100), 4);
        due.is("cellOf(99, 70)", x.cellOf(99, 70), 6);
        due.is("cellOf(41, 29)", x.cellOf(41, 29), 4);
        due.is("cellOf(100, 1)", x.cellOf(100, 1), 6);
        due.is("cellOf(100, 100)", x.cellOf(100, 100), 4);
        x.set(0, -6, 1, 1);
        due.is("cellOf(-1, 3) at a zero of -6 x x + x + 1", x.cellOf(-1, 3), 1);
        due.is("cellOf(2, 4) at a zero of -6 x x + x + 1", x.cellOf(2, 4), 5);
        due.is("cellOf(0, 17)", x.cellOf(0, 17), 2);
    }

    private void promise6Zeros() {
        RealSigns x = new RealSigns();
        x.set(0, 1, 0, -2);
        x.set(1, 2, 4, 2);
        x.set(2, 0, 0, 0);
        x.set(3, 0, 5, 0);
        due.is("zeros(0)", x.zeros(0), 2);
        due.is("zeros(1)", x.zeros(1), 1);
        due.is("zeros(2) of 0", x.zeros(2), 0);
        due.is("zeros(3)", x.zeros(3), 1);
        x.set(3, 0, 0, -1);
        due.is("zeros(3) of a constant", x.zeros(3), 0);
        x.set(3, 1, 1, 1);
        due.is("zeros(3) of x x + x + 1", x.zeros(3), 0);
    }
}
