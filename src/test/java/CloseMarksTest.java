import java.util.Arrays;

/**
 * Every zero of every polynomial with coefficients from -30 to 30, set beside its neighbours on the
 * line: the marks that are hardest to tell apart, and the same number told by other polynomials.
 *
 * The due order comes from doubles. Two zeros that differ are at least 10^-8 apart (the resultant
 * of their polynomials is a whole number other than 0), and a double errs by less than 10^-12 here.
 */
public final class CloseMarksTest {
    private static final double SAME = 1e-10;
    private static final int[] STEPS = {1, 2, 7};

    private final Due due = new Due();
    private final Zero[] zeros = new Zero[500_000];
    private int count = 0;

    private record Zero(double x, int a, int b, int c) {
    }

    public static void main(String[] args) {
        CloseMarksTest test = new CloseMarksTest();
        for (int a = -30; a <= 30; a++) {
            for (int b = -30; b <= 30; b++) {
                for (int c = -30; c <= 30; c++) {
                    test.addZeros(a, b, c);
                }
            }
        }
        Arrays.sort(test.zeros, 0, test.count, (s, t) -> Double.compare(s.x, t.x));
        test.gapsAreWide();
        for (int step : STEPS) {
            for (int i = 0; i + step < test.count; i++) {
                test.beside(test.zeros[i], test.zeros[i + step]);
            }
        }
        test.due.end();
    }

    private void addZeros(int a, int b, int c) {
        double d = (double) b * b - 4.0 * a * c;
        if (a == 0 && b != 0) {
            zeros[count++] = new Zero(-(double) c / b, a, b, c);
        } else if (a != 0 && d == 0) {
            zeros[count++] = new Zero(-b / (2.0 * a), a, b, c);
        } else if (a != 0 && d > 0) {
            zeros[count++] = new Zero((-b - Math.sqrt(d)) / (2.0 * a), a, b, c);
            zeros[count++] = new Zero((-b + Math.sqrt(d)) / (2.0 * a), a, b, c);
        }
    }

    /** What the order by doubles rests on: no gap is near the bound between same and other. */
    private void gapsAreWide() {
        int near = 0;
        for (int i = 0; i + 1 < count; i++) {
            double gap = zeros[i + 1].x - zeros[i].x;
            near += gap > 1e-12 && gap < 1e-8 ? 1 : 0;
        }
        due.is("gaps that doubles can't tell", near, 0);
    }

    private void beside(Zero s, Zero t) {
        RealSigns x = new RealSigns();
        x.set(0, s.a, s.b, s.c);
        x.set(3, t.a, t.b, t.c);
        String name = s + " beside " + t;
        int cellOfS = cellOfZero(s, s, t);
        int cellOfT = cellOfZero(t, s, t);
        due.is("marks() for " + name, x.marks(), marksOf(s, t));
        due.is("sign(0, " + cellOfS + ") for " + name, x.sign(0, cellOfS), 0);
        due.is("sign(3, " + cellOfT + ") for " + name, x.sign(3, cellOfT), 0);
        if (cellOfS != cellOfT) {
            due.is("sign(3, " + cellOfS + ") for " + name, x.sign(3, cellOfS), signAt(t, s.x));
            due.is("sign(0, " + cellOfT + ") for " + name, x.sign(0, cellOfT), signAt(s, t.x));
        }
    }

    /** Evaluation at a zero so close by errs by less than it is away from 0, see the class. */
    private static int signAt(Zero f, double x) {
        double value = (f.a * x + f.b) * x + f.c;
        return Math.abs(value) < 1e-9 ? 0 : value < 0 ? -1 : 1;
    }

    private static double other(Zero f) {
        return f.a == 0 ? f.x : -(double) f.b / f.a - f.x;
    }

    private static int marksOf(Zero s, Zero t) {
        double[] all = {s.x, other(s), t.x, other(t)};
        Arrays.sort(all);
        int marks = 1;
        for (int i = 1; i < all.length; i++) {
            marks += all[i] - all[i - 1] > SAME ? 1 : 0;
        }
        return marks;
    }

    private static int cellOfZero(Zero zero, Zero s, Zero t) {
        double[] all = {s.x, other(s), t.x, other(t)};
        Arrays.sort(all);
        int cell = 1;
        for (int i = 0; i < all.length && all[i] < zero.x - SAME; i++) {
            cell += all[i + 1] - all[i] > SAME ? 2 : 0;
        }
        return cell;
    }
}
