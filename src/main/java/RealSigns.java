/** Conditions on the signs of a few polynomials in one real variable, decided for all real numbers. */
public final class RealSigns {
    public static final int BAD_ARG = -1000;
    public static final int FULL = -1001;
    public static final int TOO_FEW = -1002;
    public static final int NONE = -1003;

    private static final int POLYNOMIALS = 4;
    private static final int GREATEST_COEFFICIENT = 30;
    private static final int GREATEST_SET = 7;
    private static final int GREATEST_IN_FRACTION = 100;
    // Two for each polynomial: a mark is a zero of one that is not 0 for all x.
    private static final int MOST_MARKS = 8;
    private static final int MOST_CELLS = 17;
    private static final int MOST_FORMULAS = 16;
    // The cells with odd numbers are the marks.
    private static final int MARK_CELLS = 0xAAAA;

    private static final int PUSH_CONDITION = 0;
    private static final int TURN_ROUND = 1;
    private static final int JOIN_BY_AND = 2;
    private static final int JOIN_BY_OR = 3;

    private final int[] squareTerm = new int[POLYNOMIALS];
    private final int[] linearTerm = new int[POLYNOMIALS];
    private final int[] constantTerm = new int[POLYNOMIALS];

    // Mark m is (markWhole + markSide * root of markUnder) / markBelow, from the left to the right.
    // Roots are never taken, so that marks are compared without any error.
    private final int[] markWhole = new int[MOST_MARKS];
    private final int[] markSide = new int[MOST_MARKS];
    private final int[] markUnder = new int[MOST_MARKS];
    private final int[] markBelow = new int[MOST_MARKS];
    // Bit k is set if polynomial k is 0 at the mark.
    private final int[] markZeros = new int[MOST_MARKS];
    private int markCount = 0;

    // The formulas are kept as the steps that made them since the last discard, because the
    // polynomials may change behind them: a question takes the steps anew.
    private final int[] stepKind = new int[MOST_FORMULAS];
    private final int[] stepPolynomial = new int[MOST_FORMULAS];
    private final int[] stepSet = new int[MOST_FORMULAS];
    private int made = 0;
    private int depth = 0;

    // For each formula on the stack the cells where it holds, cell i as bit i; filled by a question.
    private final int[] heldCells = new int[MOST_FORMULAS];

    public RealSigns() {
    }

    public int set(int k, int a, int b, int c) {
        if (!isPolynomial(k) || !isCoefficient(a) || !isCoefficient(b) || !isCoefficient(c)) {
            return BAD_ARG;
        }
        squareTerm[k] = a;
        linearTerm[k] = b;
        constantTerm[k] = c;
        markCount = 0;
        for (int j = 0; j < POLYNOMIALS; j++) {
            addZerosOf(j);
        }
        return 0;
    }

    public int marks() {
        return markCount;
    }

    public int sign(int k, int i) {
        if (!isPolynomial(k)) {
            return BAD_ARG;
        }
        if (!isCell(i)) {
            return NONE;
        }
        return signOn(k, i);
    }

    public int cellOf(int p, int q) {
        if (!isFraction(p, q)) {
            return BAD_ARG;
        }
        return cellWith(p, 0, 0, q);
    }

    public int zeros(int k) {
        if (!isPolynomial(k)) {
            return BAD_ARG;
        }
        int count = 0;
        for (int m = 0; m < markCount; m++) {
            if (isZeroAt(k, m)) {
                count++;
            }
        }
        return count;
    }

    public int condition(int k, int s) {
        if (!isPolynomial(k) || s < 0 || s > GREATEST_SET) {
            return BAD_ARG;
        }
        if (made >= MOST_FORMULAS) {
            return FULL;
        }
        stepPolynomial[made] = k;
        stepSet[made] = s;
        stepKind[made] = PUSH_CONDITION;
        made++;
        depth++;
        return depth;
    }

    public int not() {
        if (made >= MOST_FORMULAS) {
            return FULL;
        }
        if (depth < 1) {
            return TOO_FEW;
        }
        stepKind[made] = TURN_ROUND;
        made++;
        return depth;
    }

    public int join(int op) {
        if (op != 0 && op != 1) {
            return BAD_ARG;
        }
        if (made >= MOST_FORMULAS) {
            return FULL;
        }
        if (depth < 2) {
            return TOO_FEW;
        }
        stepKind[made] = op == 0 ? JOIN_BY_AND : JOIN_BY_OR;
        made++;
        depth--;
        return depth;
    }

    public int discard() {
        int count = depth;
        depth = 0;
        made = 0;
        return count;
    }

    public int some() {
        if (depth < 1) {
            return TOO_FEW;
        }
        takeSteps();
        return heldCells[depth - 1] != 0 ? 1 : 0;
    }

    public int every() {
        if (depth < 1) {
            return TOO_FEW;
        }
        takeSteps();
        return heldCells[depth - 1] == allCells() ? 1 : 0;
    }

    public int pieces() {
        if (depth < 1) {
            return TOO_FEW;
        }
        takeSteps();
        int held = heldCells[depth - 1];
        int firstOfPiece = held & ~(held << 1);
        return countCells(firstOfPiece);
    }

    public int points() {
        if (depth < 1) {
            return TOO_FEW;
        }
        takeSteps();
        int held = heldCells[depth - 1];
        int alone = held & ~(held << 1) & ~(held >> 1);
        return countCells(alone & MARK_CELLS);
    }

    public int holds(int i) {
        if (depth < 1) {
            return TOO_FEW;
        }
        if (!isCell(i)) {
            return NONE;
        }
        takeSteps();
        return (heldCells[depth - 1] >> i) & 1;
    }

    public int at(int p, int q) {
        if (depth < 1) {
            return TOO_FEW;
        }
        if (!isFraction(p, q)) {
            return BAD_ARG;
        }
        takeSteps();
        int cell = cellWith(p, 0, 0, q);
        return (heldCells[depth - 1] >> cell) & 1;
    }

    public int same() {
        if (depth < 2) {
            return TOO_FEW;
        }
        takeSteps();
        return heldCells[depth - 2] == heldCells[depth - 1] ? 1 : 0;
    }

    public int implies() {
        if (depth < 2) {
            return TOO_FEW;
        }
        takeSteps();
        return (heldCells[depth - 2] & ~heldCells[depth - 1]) == 0 ? 1 : 0;
    }

    private static boolean isPolynomial(int k) {
        return k >= 0 && k < POLYNOMIALS;
    }

    private static boolean isCoefficient(int v) {
        return v >= -GREATEST_COEFFICIENT && v <= GREATEST_COEFFICIENT;
    }

    private static boolean isFraction(int p, int q) {
        return p >= -GREATEST_IN_FRACTION && p <= GREATEST_IN_FRACTION
                && q >= 1 && q <= GREATEST_IN_FRACTION;
    }

    private boolean isCell(int i) {
        return i >= 0 && i <= 2 * markCount;
    }

    private int discriminant(int k) {
        return linearTerm[k] * linearTerm[k] - 4 * squareTerm[k] * constantTerm[k];
    }

    private void addZerosOf(int k) {
        int a = squareTerm[k];
        int b = linearTerm[k];
        int c = constantTerm[k];
        // What stands below the line of a mark is kept above 0, so that comparing may multiply by it.
        if (a < 0 || (a == 0 && b < 0)) {
            a = -a;
            b = -b;
            c = -c;
        }
        int under = discriminant(k);
        if (a == 0 && b != 0) {
            addMark(k, -c, 0, 0, b);
        } else if (a != 0 && under == 0) {
            addMark(k, -b, 0, 0, 2 * a);
        } else if (a != 0 && under > 0) {
            addMark(k, -b, -1, under, 2 * a);
            addMark(k, -b, 1, under, 2 * a);
        }
    }

    private void addMark(int k, int whole, int side, int under, int below) {
        int cell = cellWith(whole, side, under, below);
        int m = cell / 2;
        if (cell % 2 == 0) {
            makeRoomAt(m);
            markWhole[m] = whole;
            markSide[m] = side;
            markUnder[m] = under;
            markBelow[m] = below;
            markZeros[m] = 0;
        }
        markZeros[m] |= 1 << k;
    }

    private void makeRoomAt(int place) {
        for (int m = markCount; m > place; m--) {
            markWhole[m] = markWhole[m - 1];
            markSide[m] = markSide[m - 1];
            markUnder[m] = markUnder[m - 1];
            markBelow[m] = markBelow[m - 1];
            markZeros[m] = markZeros[m - 1];
        }
        markCount++;
    }

    private int cellWith(int whole, int side, int under, int below) {
        int cell = 0;
        for (int m = 0; m < markCount; m++) {
            int order = compareWithMark(m, whole, side, under, below);
            if (order > 0) {
                cell = 2 * m + 2;
            } else if (order == 0) {
                cell = 2 * m + 1;
            }
        }
        return cell;
    }

    // The sign of (whole + side * root of under) / below less mark m. Over the common line this is
    // w + r with r = x * root of under + y * root of markUnder; its sign is that of w|w| + r|r|,
    // where r|r| has one root alone. All products stay below 10^17.
    private int compareWithMark(int m, int whole, int side, int under, int below) {
        long w = (long) whole * markBelow[m] - (long) markWhole[m] * below;
        long x = (long) side * markBelow[m];
        long y = -(long) markSide[m] * below;
        long u = under;
        long v = markUnder[m];
        int signOfR = signOfRoots(x, u, y, v);
        long wSquared = w < 0 ? -w * w : w * w;
        long p = wSquared + signOfR * (x * x * u + y * y * v);
        long q = 2 * signOfR * x * y;
        return signOfRoots(p, 1, q, u * v);
    }

    // The sign of x * root of u + y * root of v: each part is squared with its sign kept, which
    // does not change the part that outweighs the other one.
    private static int signOfRoots(long x, long u, long y, long v) {
        long first = x < 0 ? -x * x * u : x * x * u;
        long second = y < 0 ? -y * y * v : y * y * v;
        long sum = first + second;
        return sum < 0 ? -1 : sum > 0 ? 1 : 0;
    }

    private boolean isZeroAt(int k, int m) {
        return ((markZeros[m] >> k) & 1) == 1;
    }

    private int signFarLeft(int k) {
        int leading = constantTerm[k];
        if (squareTerm[k] != 0) {
            leading = squareTerm[k];
        } else if (linearTerm[k] != 0) {
            leading = -linearTerm[k];
        }
        return leading < 0 ? -1 : leading > 0 ? 1 : 0;
    }

    private int signOn(int k, int cell) {
        int s = signFarLeft(k);
        // At a double zero the polynomial touches 0 and keeps its sign.
        boolean turns = squareTerm[k] == 0 || discriminant(k) != 0;
        for (int m = 0; m < markCount && 2 * m < cell; m++) {
            if (isZeroAt(k, m)) {
                if (cell == 2 * m + 1) {
                    return 0;
                }
                s = turns ? -s : s;
            }
        }
        return s;
    }

    private int allCells() {
        return (1 << (2 * markCount + 1)) - 1;
    }

    private static int countCells(int cells) {
        int count = 0;
        for (int i = 0; i < MOST_CELLS; i++) {
            count += (cells >> i) & 1;
        }
        return count;
    }

    private int cellsWith(int k, int s) {
        int cells = 0;
        for (int i = 0; i <= 2 * markCount; i++) {
            int bitOfSign = signOn(k, i) + 1;
            cells |= ((s >> bitOfSign) & 1) << i;
        }
        return cells;
    }

    // not and join keep a step only if the stack has formulas enough for it, so n never falls short.
    private void takeSteps() {
        int n = 0;
        for (int i = 0; i < made; i++) {
            int kind = stepKind[i];
            if (kind == PUSH_CONDITION) {
                heldCells[n] = cellsWith(stepPolynomial[i], stepSet[i]);
                n++;
            } else if (kind == TURN_ROUND) {
                heldCells[n - 1] = allCells() & ~heldCells[n - 1];
            } else if (kind == JOIN_BY_AND) {
                n--;
                heldCells[n - 1] &= heldCells[n];
            } else {
                n--;
                heldCells[n - 1] |= heldCells[n];
            }
        }
    }
}
