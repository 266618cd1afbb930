import java.math.BigDecimal;
import java.math.MathContext;
import java.util.ArrayList;
import java.util.List;
import java.util.TreeSet;

/**
 * Runs of 512 calls with arguments from a fixed row of numbers, each answer held against a model.
 * The model shares nothing with the class: it has the marks as decimals of 60 digits, looks at a
 * sample number in each cell, and holds a formula as a tree that is asked about that number.
 */
public final class ModelTest {
    private static final int RUNS = 1500;
    private static final int CALLS = 512;
    private static final MathContext DIGITS = new MathContext(60);
    // Numbers that differ, differ by far more (see CloseMarksTest); roundings stay far below.
    private static final BigDecimal TINY = new BigDecimal("1e-40");
    private static final BigDecimal TWO = BigDecimal.valueOf(2);

    private interface Formula {
        boolean at(BigDecimal x);
    }

    private final Due due;
    private final int run;
    private final RealSigns real = new RealSigns();
    private final int[][] polynomials = new int[4][3];
    private final List<BigDecimal> samples = new ArrayList<>();
    private final List<Formula> stack = new ArrayList<>();
    private int made = 0;
    private long row;
    private int calls = 0;

    private ModelTest(Due due, int run) {
        this.due = due;
        this.run = run;
        this.row = 7_919L * run + 1;
        findSamples();
    }

    public static void main(String[] args) {
        Due due = new Due();
        for (int run = 0; run < RUNS; run++) {
            ModelTest test = new ModelTest(due, run);
            while (test.calls < CALLS) {
                test.call();
            }
        }
        due.end();
    }

    private int pick(int from, int to) {
        row = row * 6364136223846793005L + 1442695040888963407L;
        return from + (int) ((row >>> 33) % (to - from + 1));
    }

    /** Now and then just outside of the range, else inside. */
    private int pickNear(int from, int to) {
        return pick(0, 19) == 0 ? pick(0, 1) * (to - from + 2) + from - 1 : pick(from, to);
    }

    private void check(String call, int got, int want) {
        calls++;
        due.is("run " + run + ", call " + calls + ": " + call, got, want);
    }

    private void call() {
        int which = pick(0, 39);
        if (which < 4) {
            callSet();
        } else if (which < 16) {
            callAboutPolynomials(which);
        } else if (which < 25) {
            callFormula(which);
        } else {
            callQuestion(which);
        }
    }

    private void callSet() {
        int k = pickNear(0, 3);
        // Small coefficients make zeros in common and double zeros frequent.
        int most = pick(0, 2) == 0 ? 30 : pick(0, 6);
        int a = pick(0, 3) == 0 ? 0 : pick(-most, most);
        int b = pick(-most, most);
        int c = pick(-most, most);
        if (pick(0, 3) == 0) {
            int[] like = polynomials[pick(0, 3)];
            int times = pick(0, 1) * 2 - 1;
            a = times * like[0];
            b = times * like[1];
            c = times * like[2];
        }
        if (pick(0, 19) == 0) {
            int beyond = pick(0, 1) * 62 - 31;
            int place = pick(0, 2);
            a = place == 0 ? beyond : a;
            b = place == 1 ? beyond : b;
            c = place == 2 ? beyond : c;
        }
        boolean fine = isFrom(0, 3, k) && isFrom(-30, 30, a) && isFrom(-30, 30, b) && isFrom(-30, 30, c);
        if (fine) {
            polynomials[k] = new int[] {a, b, c};
            findSamples();
        }
        check("set(" + k + ", " + a + ", " + b + ", " + c + ")", real.set(k, a, b, c),
                fine ? 0 : RealSigns.BAD_ARG);
    }

    private void callAboutPolynomials(int which) {
        int k = pickNear(0, 3);
        int i = pickNear(0, samples.size() - 1);
        int p = pickNear(-100, 100);
        int q = pickNear(1, 100);
        if (which < 6) {
            check("marks()", real.marks(), samples.size() / 2);
        } else if (which < 10) {
            int want = !isFrom(0, 3, k) ? RealSigns.BAD_ARG
                    : !isFrom(0, samples.size() - 1, i) ? RealSigns.NONE : signAt(k, samples.get(i));
            check("sign(" + k + ", " + i + ")", real.sign(k, i), want);
        } else if (which < 14) {
            int want = isFrom(-100, 100, p) && isFrom(1, 100, q) ? cellOf(p, q) : RealSigns.BAD_ARG;
            check("cellOf(" + p + ", " + q + ")", real.cellOf(p, q), want);
        } else {
            check("zeros(" + k + ")", real.zeros(k), isFrom(0, 3, k) ? zerosOf(k).size() : RealSigns.BAD_ARG);
        }
    }

    private void callFormula(int which) {
        int k = pickNear(0, 3);
        int s = pickNear(0, 7);
        int op = pickNear(0, 1);
        if (which < 20) {
            int code = !isFrom(0, 3, k) || !isFrom(0, 7, s) ? RealSigns.BAD_ARG : fullOr(0);
            check("condition(" + k + ", " + s + ")", real.condition(k, s),
                    push(code, 0, x -> (s >> (signAt(k, x) + 1) & 1) == 1));
        } else if (which < 22) {
            int code = fullOr(1);
            Formula f = fromTop(code == 0 ? 0 : -1);
            check("not()", real.not(), push(code, 1, x -> !f.at(x)));
        } else if (which < 24) {
            int code = !isFrom(0, 1, op) ? RealSigns.BAD_ARG : fullOr(2);
            Formula f = fromTop(code == 0 ? 1 : -1);
            Formula g = fromTop(code == 0 ? 0 : -1);
            check("join(" + op + ")", real.join(op),
                    push(code, 2, x -> op == 0 ? f.at(x) && g.at(x) : f.at(x) || g.at(x)));
        } else if (made == 16 || pick(0, 5) == 0) {
            int want = stack.size();
            stack.clear();
            made = 0;
            check("discard()", real.discard(), want);
        }
    }

    private int fullOr(int needed) {
        return made == 16 ? RealSigns.FULL : stack.size() < needed ? RealSigns.TOO_FEW : 0;
    }

    private Formula fromTop(int n) {
        return n < 0 ? null : stack.get(stack.size() - 1 - n);
    }

    private int push(int code, int taken, Formula made) {
        if (code != 0) {
            return code;
        }
        for (int n = 0; n < taken; n++) {
            stack.remove(stack.size() - 1);
        }
        stack.add(made);
        this.made++;
        return stack.size();
    }

    private void callQuestion(int which) {
        int i = pickNear(0, samples.size() - 1);
        int p = pickNear(-100, 100);
        int q = pickNear(1, 100);
        boolean one = !stack.isEmpty();
        if (which == 25) {
            check("some()", real.some(), one ? truth(heldBy(0).contains(true)) : RealSigns.TOO_FEW);
        } else if (which == 26) {
            check("every()", real.every(), one ? truth(!heldBy(0).contains(false)) : RealSigns.TOO_FEW);
        } else if (which < 29) {
            check("pieces()", real.pieces(), one ? pieces(false) : RealSigns.TOO_FEW);
        } else if (which < 31) {
            check("points()", real.points(), one ? pieces(true) : RealSigns.TOO_FEW);
        } else if (which < 33) {
            int want = !one ? RealSigns.TOO_FEW : !isFrom(0, samples.size() - 1, i) ? RealSigns.NONE
                    : truth(heldBy(0).get(i));
            check("holds(" + i + ")", real.holds(i), want);
        } else if (which < 36) {
            int want = !one ? RealSigns.TOO_FEW
                    : !isFrom(-100, 100, p) || !isFrom(1, 100, q) ? RealSigns.BAD_ARG
                    : truth(fromTop(0).at(fraction(p, q)));
            check("at(" + p + ", " + q + ")", real.at(p, q), want);
        } else if (which < 38) {
            check("same()", real.same(), stack.size() < 2 ? RealSigns.TOO_FEW
                    : truth(heldBy(0).equals(heldBy(1))));
        } else {
            check("implies()", real.implies(), stack.size() < 2 ? RealSigns.TOO_FEW : truth(implied()));
        }
    }

    private static int truth(boolean b) {
        return b ? 1 : 0;
    }

    private static boolean isFrom(int from, int to, int v) {
        return v >= from && v <= to;
    }

    private static BigDecimal fraction(int p, int q) {
        return BigDecimal.valueOf(p).divide(BigDecimal.valueOf(q), DIGITS);
    }

    private int signAt(int k, BigDecimal x) {
        int[] f = polynomials[k];
        BigDecimal value = BigDecimal.valueOf(f[0]).multiply(x).add(BigDecimal.valueOf(f[1]))
                .multiply(x).add(BigDecimal.valueOf(f[2]));
        return value.abs().compareTo(TINY) < 0 ? 0 : value.signum();
    }

    private List<BigDecimal> zerosOf(int k) {
        int[] f = polynomials[k];
        int d = f[1] * f[1] - 4 * f[0] * f[2];
        if (f[0] == 0) {
            return f[1] == 0 ? List.of() : List.of(fraction(-f[2], f[1]));
        }
        if (d < 0) {
            return List.of();
        }
        BigDecimal root = BigDecimal.valueOf(d).sqrt(DIGITS);
        BigDecimal middle = BigDecimal.valueOf(-f[1]);
        BigDecimal below = BigDecimal.valueOf(2L * f[0]);
        BigDecimal first = middle.subtract(root).divide(below, DIGITS);
        BigDecimal second = middle.add(root).divide(below, DIGITS);
        return d == 0 ? List.of(first) : List.of(first, second);
    }

    /** One number of each cell: the marks themselves, and numbers before, between and behind them. */
    private void findSamples() {
        TreeSet<BigDecimal> marks = new TreeSet<>((x, y) ->
                x.subtract(y).abs().compareTo(TINY) < 0 ? 0 : x.compareTo(y));
        for (int k = 0; k < 4; k++) {
            marks.addAll(zerosOf(k));
        }
        samples.clear();
        BigDecimal before = null;
        for (BigDecimal mark : marks) {
            samples.add(before == null ? mark.subtract(TWO) : before.add(mark).divide(TWO, DIGITS));
            samples.add(mark);
            before = mark;
        }
        samples.add(before == null ? TWO : before.add(TWO));
    }

    private int cellOf(int p, int q) {
        BigDecimal x = fraction(p, q);
        int cell = 0;
        for (int i = 1; i < samples.size(); i += 2) {
            BigDecimal off = x.subtract(samples.get(i));
            if (off.abs().compareTo(TINY) < 0) {
                return i;
            }
            cell = off.signum() > 0 ? i + 1 : cell;
        }
        return cell;
    }

    private List<Boolean> heldBy(int fromTop) {
        List<Boolean> held = new ArrayList<>();
        for (BigDecimal x : samples) {
            held.add(fromTop(fromTop).at(x));
        }
        return held;
    }

    private int pieces(boolean onlyPoints) {
        List<Boolean> held = heldBy(0);
        int count = 0;
        int i = 0;
        while (i < held.size()) {
            int start = i;
            while (i < held.size() && held.get(i)) {
                i++;
            }
            boolean isPoint = i == start + 1 && start % 2 == 1;
            count += i > start && (isPoint || !onlyPoints) ? 1 : 0;
            i++;
        }
        return count;
    }

    private boolean implied() {
        List<Boolean> below = heldBy(1);
        List<Boolean> top = heldBy(0);
        for (int i = 0; i < top.size(); i++) {
            if (below.get(i) && !top.get(i)) {
                return false;
            }
        }
        return true;
    }
}
