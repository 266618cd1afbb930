/** The sentences of promises 7 to 10 that name a boundary case, one method for each. */
public final class FormulaEdgesTest {
    private static final int BAD_ARG = RealSigns.BAD_ARG;
    private static final int FULL = RealSigns.FULL;
    private static final int TOO_FEW = RealSigns.TOO_FEW;

    // The three calls that make a formula, to have each of them as the 16th and as the 17th one.
    private static final int CONDITION = 0;
    private static final int NOT = 1;
    private static final int JOIN = 2;

    private final Due due = new Due();

    public static void main(String[] args) {
        FormulaEdgesTest test = new FormulaEdgesTest();
        test.termsEmptyAndWholeSet();
        test.promise7K();
        test.promise7S();
        test.promise7Full();
        test.promise7BadArgBeforeFull();
        test.promise7NumberOnTheStack();
        test.promise8TooFew();
        test.promise8Full();
        test.promise9Op();
        test.promise9Full();
        test.promise9TooFew();
        test.promise9Order();
        test.fullWhicheverCallWasThe16th();
        test.fullCountsConditionsNotsAndJoins();
        test.fullCountsFromTheLastDiscard();
        test.fullCountsOnlyWhatWasMade();
        test.promise10HowManyThereWere();
        test.promise10EmptiesTheStack();
        test.promise10LeavesThePolynomials();
        test.due.end();
    }

    private static int make(RealSigns x, int call) {
        return call == CONDITION ? x.condition(0, 1) : call == NOT ? x.not() : x.join(1);
    }

    private static void makeConditions(RealSigns x, int count, int s) {
        for (int n = 0; n < count; n++) {
            x.condition(0, s);
        }
    }

    private void termsEmptyAndWholeSet() {
        due.sentence("Terms: s is the sum of 1 for -1, 2 for 0, and 4 for 1");
        RealSigns x = Given.oneMark();
        x.condition(0, 0);
        due.holds(x, 0, 0, 0);
        x.condition(0, 1);
        due.holds(x, 1, 0, 0);
        x.condition(0, 2);
        due.holds(x, 0, 1, 0);
        x.condition(0, 4);
        due.holds(x, 0, 0, 1);
        x.condition(0, 7);
        due.holds(x, 1, 1, 1);
        x.condition(1, 2);
        due.holds(x, 1, 1, 1);
        x.condition(1, 5);
        due.holds(x, 0, 0, 0);
    }

    private void promise7K() {
        due.sentence("Promise 7: k not 0 to 3 answers BAD_ARG");
        RealSigns x = new RealSigns();
        for (int k : Given.outside(0, 3)) {
            due.is("condition(" + k + ", 7)", x.condition(k, 7), BAD_ARG);
        }
        due.is("some()", x.some(), TOO_FEW);
        for (int k = 0; k <= 3; k++) {
            due.is("condition(" + k + ", 7)", x.condition(k, 7), k + 1);
        }
    }

    private void promise7S() {
        due.sentence("Promise 7: s not 0 to 7 answers BAD_ARG");
        RealSigns x = new RealSigns();
        for (int s : Given.outside(0, 7)) {
            due.is("condition(0, " + s + ")", x.condition(0, s), BAD_ARG);
            due.is("condition(3, " + s + ")", x.condition(3, s), BAD_ARG);
            due.is("condition(4, " + s + ")", x.condition(4, s), BAD_ARG);
        }
        due.is("some()", x.some(), TOO_FEW);
        for (int s = 0; s <= 7; s++) {
            due.is("condition(0, " + s + ")", x.condition(0, s), s + 1);
        }
    }

    private void promise7Full() {
        due.sentence("Promise 7: 16 formulas were made answers FULL");
        RealSigns x = Given.oneMark();
        makeConditions(x, 15, 1);
        due.is("the 16th", x.condition(0, 4), 16);
        due.is("the 17th", x.condition(0, 1), FULL);
        due.is("the 17th again", x.condition(3, 7), FULL);
        due.holds(x, 0, 0, 1);
        due.is("same() of the 15th and the 16th", x.same(), 0);
        due.is("discard()", x.discard(), 16);
    }

    private void promise7BadArgBeforeFull() {
        due.sentence("Promise 7: Tested in this order: BAD_ARG, FULL");
        RealSigns x = Given.oneMark();
        makeConditions(x, 16, 1);
        for (int wrong : Given.outside(0, 7)) {
            due.is("condition(" + wrong + ", 0)", x.condition(wrong, 0), BAD_ARG);
            due.is("condition(0, " + wrong + ")", x.condition(0, wrong), BAD_ARG);
        }
        due.is("condition(4, 7)", x.condition(4, 7), BAD_ARG);
        due.is("condition(3, 7)", x.condition(3, 7), FULL);
    }

    private void promise7NumberOnTheStack() {
        due.sentence("Promise 7: Otherwise the number on the stack");
        RealSigns x = new RealSigns();
        for (int n = 1; n <= 16; n++) {
            due.is("condition " + n, x.condition(n % 4, n % 8), n);
        }
        x.discard();
        x.condition(0, 1);
        x.condition(0, 1);
        x.join(0);
        due.is("condition behind two and a join", x.condition(0, 1), 2);
    }

    private void promise8TooFew() {
        due.sentence("Promise 8: an empty stack answers TOO_FEW");
        RealSigns x = Given.oneMark();
        due.is("not() on a new stack", x.not(), TOO_FEW);
        due.is("discard()", x.discard(), 0);
        x.condition(0, 1);
        due.is("not() of one", x.not(), 1);
        due.holds(x, 0, 1, 1);
        x.discard();
        due.is("not() on an emptied stack", x.not(), TOO_FEW);
        due.is("some()", x.some(), TOO_FEW);
    }

    // FULL and TOO_FEW can't both be due: after 16 formulas at least one is on the stack.
    private void promise8Full() {
        due.sentence("Promise 8: FULL as for condition");
        RealSigns x = Given.oneMark();
        x.condition(0, 1);
        for (int n = 2; n <= 16; n++) {
            due.is("not() as formula " + n, x.not(), 1);
        }
        due.is("not() as the 17th", x.not(), FULL);
        due.holds(x, 0, 1, 1);
        makeConditions(x, 1, 1);
        due.is("discard()", x.discard(), 1);
        makeConditions(x, 16, 1);
        due.is("not() behind 16 conditions", x.not(), FULL);
        due.holds(x, 1, 0, 0);
    }

    private void promise9Op() {
        due.sentence("Promise 9: op not 0 or 1 answers BAD_ARG");
        RealSigns x = Given.oneMark();
        x.condition(0, 1);
        x.condition(0, 3);
        x.condition(0, 6);
        for (int op : Given.outside(0, 1)) {
            due.is("join(" + op + ")", x.join(op), BAD_ARG);
        }
        due.is("same()", x.same(), 0);
        due.is("join(0)", x.join(0), 2);
        due.holds(x, 0, 1, 0);
        due.is("join(1)", x.join(1), 1);
        due.holds(x, 1, 1, 0);
    }

    private void promise9Full() {
        due.sentence("Promise 9: FULL as for condition");
        RealSigns x = Given.oneMark();
        makeConditions(x, 14, 1);
        x.condition(0, 4);
        due.is("join(1) as the 16th", x.join(1), 14);
        due.is("join(1) as the 17th", x.join(1), FULL);
        due.is("join(0) as the 17th", x.join(0), FULL);
        due.holds(x, 1, 0, 1);
        due.is("same()", x.same(), 0);
        due.is("discard()", x.discard(), 14);
    }

    private void promise9TooFew() {
        due.sentence("Promise 9: fewer than two answers TOO_FEW");
        RealSigns x = Given.oneMark();
        due.is("join(0) of none", x.join(0), TOO_FEW);
        due.is("join(1) of none", x.join(1), TOO_FEW);
        x.condition(0, 1);
        due.is("join(0) of one", x.join(0), TOO_FEW);
        due.is("join(1) of one", x.join(1), TOO_FEW);
        due.holds(x, 1, 0, 0);
        x.condition(0, 2);
        due.is("join(1) of two", x.join(1), 1);
        due.holds(x, 1, 1, 0);
        due.is("join(1) of the one that is left", x.join(1), TOO_FEW);
        x.discard();
        due.is("join(0) behind discard()", x.join(0), TOO_FEW);
    }

    private void promise9Order() {
        due.sentence("Promise 9: Tested in this order: BAD_ARG, FULL, TOO_FEW");
        RealSigns x = Given.oneMark();
        due.is("join(2) of none", x.join(2), BAD_ARG);
        due.is("join(-1) of none", x.join(-1), BAD_ARG);
        x.condition(0, 1);
        due.is("join(2) of one", x.join(2), BAD_ARG);
        for (int n = 0; n < 14; n++) {
            x.not();
        }
        due.is("join(0) of one behind 15", x.join(0), TOO_FEW);
        x.not();
        due.is("join(0) of one behind 16", x.join(0), FULL);
        due.is("join(1) of one behind 16", x.join(1), FULL);
        due.is("join(2) of one behind 16", x.join(2), BAD_ARG);
        due.is("join(-1) of one behind 16", x.join(-1), BAD_ARG);
        x.discard();
        makeConditions(x, 16, 1);
        due.is("join(2) of 16", x.join(2), BAD_ARG);
        due.is("join(1) of 16", x.join(1), FULL);
    }

    private void fullWhicheverCallWasThe16th() {
        due.sentence("Promises 7 to 9: FULL as for condition");
        int[] depthOf16th = {16, 15, 14};
        for (int call = CONDITION; call <= JOIN; call++) {
            for (int next = CONDITION; next <= JOIN; next++) {
                RealSigns x = Given.oneMark();
                makeConditions(x, 15, 1);
                due.is("call " + call + " as the 16th", make(x, call), depthOf16th[call]);
                due.is("call " + next + " as the 17th", make(x, next), FULL);
                due.is("discard()", x.discard(), depthOf16th[call]);
                due.is("condition as the first one after discard()", x.condition(0, 2), 1);
                due.holds(x, 0, 1, 0);
            }
        }
    }

    private void fullCountsConditionsNotsAndJoins() {
        due.sentence("Promise 7: 16 formulas were made (not: are on the stack)");
        RealSigns x = Given.oneMark();
        for (int n = 0; n < 8; n++) {
            x.condition(0, 1 << n % 3);
        }
        for (int n = 7; n >= 1; n--) {
            due.is("join(1)", x.join(1), n);
        }
        due.is("not() as the 16th", x.not(), 1);
        due.is("condition as the 17th", x.condition(0, 1), FULL);
        due.is("not() as the 17th", x.not(), FULL);
        due.is("some()", x.some(), 0);
        due.is("discard()", x.discard(), 1);
        due.is("condition after discard()", x.condition(0, 1), 1);
        due.holds(x, 1, 0, 0);
    }

    private void fullCountsFromTheLastDiscard() {
        due.sentence("Promise 7: since the stack was last emptied by a call of discard");
        RealSigns x = Given.oneMark();
        for (int round = 0; round < 5; round++) {
            makeConditions(x, 5 * round, 1);
            int before = 5 * round < 16 ? 5 * round : 16;
            due.is("discard()", x.discard(), before);
            for (int n = 1; n <= 16; n++) {
                due.is("condition " + n + " after discard()", x.condition(0, 4), n);
            }
            due.is("the 17th after discard()", x.condition(0, 4), FULL);
            due.is("discard()", x.discard(), 16);
            due.is("discard() again", x.discard(), 0);
        }
    }

    private void fullCountsOnlyWhatWasMade() {
        due.sentence("Promise 7: 16 formulas were made (a refused call makes none, a question neither)");
        RealSigns x = Given.oneMark();
        for (int n = 0; n < 20; n++) {
            x.not();
            x.join(0);
            x.condition(4, 0);
            x.condition(0, 8);
        }
        x.condition(0, 4);
        for (int n = 0; n < 20; n++) {
            x.join(1);
            x.join(9);
            x.some();
            x.same();
            x.holds(9);
            x.set(1, 0, 1, 0);
        }
        for (int n = 2; n <= 16; n++) {
            due.is("condition " + n, x.condition(0, 0), n);
        }
        due.is("condition 17", x.condition(0, 0), FULL);
        due.is("discard()", x.discard(), 16);
    }

    private void promise10HowManyThereWere() {
        due.sentence("Promise 10: answers how many there were");
        RealSigns x = new RealSigns();
        due.is("discard() of none", x.discard(), 0);
        for (int n = 1; n <= 16; n++) {
            makeConditions(x, n, 1);
            due.is("discard() of " + n, x.discard(), n);
            due.is("discard() of none", x.discard(), 0);
        }
        makeConditions(x, 3, 1);
        x.not();
        x.join(0);
        due.is("discard() of three, less one by join", x.discard(), 2);
    }

    private void promise10EmptiesTheStack() {
        due.sentence("Promise 10: Empties the stack");
        RealSigns x = Given.oneMark();
        makeConditions(x, 16, 7);
        x.discard();
        due.about(x, TOO_FEW, TOO_FEW, TOO_FEW, TOO_FEW);
        due.is("not()", x.not(), TOO_FEW);
        due.is("join(0)", x.join(0), TOO_FEW);
        due.is("same()", x.same(), TOO_FEW);
        x.condition(0, 1);
        due.is("same() of one", x.same(), TOO_FEW);
        due.is("join(0) of one", x.join(0), TOO_FEW);
        due.holds(x, 1, 0, 0);
    }

    private void promise10LeavesThePolynomials() {
        due.sentence("Promise 10: Empties the stack (and nothing else)");
        RealSigns x = Given.eightMarks();
        makeConditions(x, 2, 7);
        x.discard();
        due.is("marks()", x.marks(), 8);
        due.signs(x, 0, 1, 1, 1, 1, 1, 1, 1, 0, -1, 0, 1, 1, 1, 1, 1, 1, 1);
    }
}
