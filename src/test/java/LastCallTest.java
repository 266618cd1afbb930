/** "An object is used for at most 512 calls after it has been made": the 512th is answered like any other. */
public final class LastCallTest {
    private static final int CALLS = 512;
    private static final int WAYS = 4;

    private final Due due = new Due();
    private RealSigns x;

    public static void main(String[] args) {
        LastCallTest test = new LastCallTest();
        test.due.sentence("What it is: at most 512 calls");
        for (int way = 0; way < WAYS; way++) {
            test.lastAboutPolynomials(way);
            test.lastAboutFormulas(way);
            test.lastQuestions(way);
            test.lastRefused(way);
            test.lastButOneChanges(way);
        }
        test.due.end();
    }

    /** One of the ways to use up calls: sets alone, formulas and discards, questions, refused calls. */
    private static void useUp(RealSigns x, int way, int n) {
        if (way == 0) {
            x.set(n % 4, n % 61 - 30, n % 53 - 26, n % 31 - 15);
        } else if (way == 1 && n % 19 == 18) {
            x.discard();
        } else if (way == 1) {
            x.condition(n % 4, n % 8);
        } else if (way == 2) {
            x.cellOf(n % 201 - 100, n % 100 + 1);
        } else {
            x.set(4, n, n, n);
        }
    }

    /** Four polynomials with eight marks and two formulas, made by just as many calls; keeps the object. */
    private RealSigns after(int way, int calls) {
        x = new RealSigns();
        for (int n = 0; n < calls - 7; n++) {
            useUp(x, way, n);
        }
        x.discard();
        for (int k = 0; k < 4; k++) {
            x.set(k, 1, 0, -(k + 1) * (k + 1));
        }
        x.condition(3, 4);
        x.condition(3, 6);
        return x;
    }

    private RealSigns beforeTheLast(int way) {
        return after(way, CALLS - 1);
    }

    private void lastAboutPolynomials(int way) {
        due.is("set(0, 0, 0, 1)", beforeTheLast(way).set(0, 0, 0, 1), 0);
        due.is("marks()", beforeTheLast(way).marks(), 8);
        due.is("sign(3, 16)", beforeTheLast(way).sign(3, 16), 1);
        due.is("sign(0, 8)", beforeTheLast(way).sign(0, 8), -1);
        due.is("cellOf(4, 1)", beforeTheLast(way).cellOf(4, 1), 15);
        due.is("zeros(3)", beforeTheLast(way).zeros(3), 2);
    }

    private void lastAboutFormulas(int way) {
        due.is("condition(0, 7)", beforeTheLast(way).condition(0, 7), 3);
        due.is("not()", beforeTheLast(way).not(), 2);
        due.is("join(0)", beforeTheLast(way).join(0), 1);
        due.is("discard()", beforeTheLast(way).discard(), 2);
    }

    private void lastQuestions(int way) {
        due.is("some()", beforeTheLast(way).some(), 1);
        due.is("every()", beforeTheLast(way).every(), 0);
        due.is("pieces()", beforeTheLast(way).pieces(), 2);
        due.is("points()", beforeTheLast(way).points(), 0);
        due.is("holds(1)", beforeTheLast(way).holds(1), 1);
        due.is("holds(2)", beforeTheLast(way).holds(2), 0);
        due.is("at(-4, 1)", beforeTheLast(way).at(-4, 1), 1);
        due.is("at(39, 10)", beforeTheLast(way).at(39, 10), 0);
        due.is("same()", beforeTheLast(way).same(), 0);
        due.is("implies()", beforeTheLast(way).implies(), 1);
    }

    private void lastRefused(int way) {
        due.is("set(4, 0, 0, 0)", beforeTheLast(way).set(4, 0, 0, 0), RealSigns.BAD_ARG);
        due.is("sign(0, 17)", beforeTheLast(way).sign(0, 17), RealSigns.NONE);
        due.is("cellOf(0, 0)", beforeTheLast(way).cellOf(0, 0), RealSigns.BAD_ARG);
        due.is("condition(0, 8)", beforeTheLast(way).condition(0, 8), RealSigns.BAD_ARG);
        due.is("holds(17)", beforeTheLast(way).holds(17), RealSigns.NONE);
        due.is("at(101, 1)", beforeTheLast(way).at(101, 1), RealSigns.BAD_ARG);
        RealSigns emptied = after(way, CALLS - 2);
        emptied.discard();
        due.is("not() of none", emptied.not(), RealSigns.TOO_FEW);
        RealSigns full = after(way, CALLS - 15);
        for (int n = 0; n < 14; n++) {
            due.is("condition(0, 1)", full.condition(0, 1), n + 3);
        }
        due.is("not() behind 16", full.not(), RealSigns.FULL);
    }

    private void lastButOneChanges(int way) {
        after(way, CALLS - 2).set(0, 0, 0, 1);
        due.is("marks() behind set", x.marks(), 6);
        after(way, CALLS - 2).condition(0, 2);
        due.is("points() behind condition", x.points(), 2);
        after(way, CALLS - 2).not();
        due.is("holds(2) behind not", x.holds(2), 1);
        after(way, CALLS - 2).join(0);
        due.is("holds(1) behind join", x.holds(1), 0);
        after(way, CALLS - 2).discard();
        due.is("condition behind discard", x.condition(0, 1), 1);
    }
}
