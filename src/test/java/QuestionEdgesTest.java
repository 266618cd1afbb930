/** The sentences of promises 11 to 18 that name a boundary case, one method for each. */
public final class QuestionEdgesTest {
    private static final int BAD_ARG = RealSigns.BAD_ARG;
    private static final int TOO_FEW = RealSigns.TOO_FEW;
    private static final int NONE = RealSigns.NONE;

    private final Due due = new Due();

    public static void main(String[] args) {
        QuestionEdgesTest test = new QuestionEdgesTest();
        test.promises11To16TooFew();
        test.promise11Some();
        test.promise12Every();
        test.promise13NoPieceAndOne();
        test.promise13MostPieces();
        test.promise13GreatestRows();
        test.promise14OneMarkAlone();
        test.promise14MostPoints();
        test.promise15Cells();
        test.promise15Order();
        test.promise16P();
        test.promise16Q();
        test.promise16Order();
        test.promise16AtAMark();
        test.promises17And18TooFew();
        test.promise17Same();
        test.promise18Implies();
        test.topmostOfAFullStack();
        test.formulasAtTheMoment();
        test.due.end();
    }

    /** The formula holds at all marks of the four polynomials and nowhere else. */
    private static void pushAllMarks(RealSigns x) {
        for (int k = 0; k < 4; k++) {
            x.condition(k, 2);
        }
        x.join(1);
        x.join(1);
        x.join(1);
    }

    private void promises11To16TooFew() {
        due.sentence("Promise 11: TOO_FEW if there is none (the calls below answer likewise)");
        RealSigns x = Given.oneMark();
        noneToAsk(x);
        x.condition(0, 3);
        due.about(x, 1, 0, 1, 0);
        due.is("holds(0) of one", x.holds(0), 1);
        due.is("at(0, 1) of one", x.at(0, 1), 1);
        x.discard();
        noneToAsk(x);
        x.join(0);
        x.not();
        x.condition(4, 0);
        noneToAsk(x);
    }

    private void noneToAsk(RealSigns x) {
        due.about(x, TOO_FEW, TOO_FEW, TOO_FEW, TOO_FEW);
        due.is("holds(0)", x.holds(0), TOO_FEW);
        due.is("at(0, 1)", x.at(0, 1), TOO_FEW);
    }

    private void promise11Some() {
        due.sentence("Promise 11: 1 if it holds somewhere, else 0");
        RealSigns x = Given.eightMarks();
        x.condition(0, 0);
        due.is("some() of nowhere", x.some(), 0);
        x.not();
        due.is("some() of everywhere", x.some(), 1);
        x.discard();
        x.set(0, 0, 1, -4);
        x.set(1, 0, 1, 4);
        x.condition(0, 4);
        due.is("some() of the last cell alone", x.some(), 1);
        x.condition(1, 1);
        due.is("some() of the first cell alone", x.some(), 1);
        x.join(0);
        due.is("some() of both at once", x.some(), 0);
        x.condition(0, 2);
        due.is("some() of the last mark alone", x.some(), 1);
        x.condition(1, 2);
        due.is("some() of the first mark alone", x.some(), 1);
    }

    private void promise12Every() {
        due.sentence("Promise 12: 1 if it holds everywhere, else 0");
        RealSigns x = Given.eightMarks();
        x.condition(0, 7);
        due.is("every() of everywhere", x.every(), 1);
        x.not();
        due.is("every() of nowhere", x.every(), 0);
        x.discard();
        x.set(0, 0, 1, -4);
        x.set(1, 0, 1, 4);
        x.condition(0, 3);
        due.is("every() of all but the last cell", x.every(), 0);
        x.condition(1, 6);
        due.is("every() of all but the first cell", x.every(), 0);
        x.join(1);
        due.is("every() of both together", x.every(), 1);
        x.condition(0, 5);
        due.is("every() of all but the last mark", x.every(), 0);
        x.condition(1, 5);
        due.is("every() of all but the first mark", x.every(), 0);
        RealSigns y = new RealSigns();
        y.condition(3, 2);
        due.is("every() with no marks", y.every(), 1);
        y.not();
        due.is("every() of nowhere with no marks", y.every(), 0);
    }

    private void promise13NoPieceAndOne() {
        due.sentence("Promise 13: How many pieces it has (none, and the whole line)");
        RealSigns none = new RealSigns();
        none.condition(0, 2);
        due.is("pieces() of cell 0 with no marks", none.pieces(), 1);
        none.not();
        due.is("pieces() of nowhere with no marks", none.pieces(), 0);
        RealSigns most = Given.eightMarks();
        most.condition(0, 7);
        due.is("pieces() of 17 cells in a row", most.pieces(), 1);
        most.not();
        due.is("pieces() of nowhere with eight marks", most.pieces(), 0);
    }

    private void promise13MostPieces() {
        due.sentence("Promise 13: How many pieces it has (the most that there can be)");
        RealSigns x = Given.eightMarks();
        pushAllMarks(x);
        due.is("pieces() of eight marks", x.pieces(), 8);
        x.not();
        due.is("pieces() of the nine cells between them", x.pieces(), 9);
    }

    private void promise13GreatestRows() {
        due.sentence("Terms: a greatest row of neighbouring cells in all of which it holds");
        RealSigns x = Given.eightMarks();
        x.condition(3, 4);
        due.is("pieces() of the first and the last cell", x.pieces(), 2);
        x.condition(3, 6);
        due.is("pieces() of the first and the last two cells", x.pieces(), 2);
        x.condition(3, 3);
        due.is("pieces() of all but the first and the last cell", x.pieces(), 1);
        x.condition(0, 5);
        due.is("pieces() of all but two marks", x.pieces(), 3);
        x.condition(0, 2);
        due.is("pieces() of two marks", x.pieces(), 2);
        x.join(1);
        due.is("pieces() of rows that a mark ties together", x.pieces(), 1);
    }

    private void promise14OneMarkAlone() {
        due.sentence("Promise 14: How many of its pieces are one mark alone");
        RealSigns x = Given.oneMark();
        int[] wantForSet = {0, 0, 1, 0, 0, 0, 0, 0};
        for (int s = 0; s <= 7; s++) {
            x.condition(0, s);
            due.is("points() of condition(0, " + s + ")", x.points(), wantForSet[s]);
        }
        RealSigns none = new RealSigns();
        none.condition(0, 2);
        due.is("points() of the whole line with no marks", none.points(), 0);
        RealSigns two = new RealSigns();
        two.set(0, 1, 0, -1);
        two.set(1, 0, 1, -1);
        two.condition(0, 2);
        due.is("points() of the first and the last mark", two.points(), 2);
        two.condition(1, 4);
        two.join(1);
        due.is("points() with a piece at the last mark", two.points(), 1);
        two.condition(0, 1);
        two.join(1);
        due.is("points() with a piece at both marks", two.points(), 0);
    }

    private void promise14MostPoints() {
        due.sentence("Promise 14: How many of its pieces are one mark alone (the most there can be)");
        RealSigns x = Given.eightMarks();
        pushAllMarks(x);
        due.is("points() of eight marks", x.points(), 8);
        x.not();
        due.is("points() of all but the marks", x.points(), 0);
        x.not();
        x.condition(3, 4);
        x.join(1);
        due.is("points() with the first and the last mark in longer pieces", x.points(), 6);
        due.is("pieces()", x.pieces(), 8);
    }

    private void promise15Cells() {
        due.sentence("Promise 15: NONE if there is no cell i");
        RealSigns none = new RealSigns();
        none.condition(0, 2);
        due.is("holds(0) with no marks", none.holds(0), 1);
        noCellOutside(none, 0);
        RealSigns one = Given.oneMark();
        one.condition(0, 5);
        due.holds(one, 1, 0, 1);
        noCellOutside(one, 2);
        RealSigns most = Given.eightMarks();
        most.condition(3, 4);
        due.holds(most, 1, 0, 0, 0, 0, 0, 0, 0, 0, 0, 0, 0, 0, 0, 0, 0, 1);
        noCellOutside(most, 16);
        most.not();
        due.holds(most, 0, 1, 1, 1, 1, 1, 1, 1, 1, 1, 1, 1, 1, 1, 1, 1, 0);
        noCellOutside(most, 16);
    }

    private void noCellOutside(RealSigns x, int last) {
        for (int i : Given.outside(0, last)) {
            due.is("holds(" + i + ")", x.holds(i), NONE);
        }
    }

    private void promise15Order() {
        due.sentence("Promise 15: NONE (tested behind TOO_FEW)");
        RealSigns x = Given.oneMark();
        for (int i : Given.outside(0, 2)) {
            due.is("holds(" + i + ") of none", x.holds(i), TOO_FEW);
        }
        x.condition(0, 7);
        due.is("holds(3) of one", x.holds(3), NONE);
        x.discard();
        due.is("holds(3) behind discard()", x.holds(3), TOO_FEW);
    }

    private void promise16P() {
        due.sentence("Promise 16: BAD_ARG as for cellOf (p)");
        RealSigns x = Given.oneMark();
        x.condition(0, 1);
        due.is("at(-100, 1)", x.at(-100, 1), 1);
        due.is("at(100, 1)", x.at(100, 1), 0);
        for (int p : Given.outside(-100, 100)) {
            due.is("at(" + p + ", 1)", x.at(p, 1), BAD_ARG);
            due.is("at(" + p + ", 0)", x.at(p, 0), BAD_ARG);
        }
    }

    private void promise16Q() {
        due.sentence("Promise 16: BAD_ARG as for cellOf (q)");
        RealSigns x = new RealSigns();
        x.set(0, 0, 20, -1);
        x.condition(0, 2);
        due.is("at(5, 1)", x.at(5, 1), 0);
        due.is("at(5, 99)", x.at(5, 99), 0);
        due.is("at(5, 100)", x.at(5, 100), 1);
        for (int q : Given.outside(1, 100)) {
            due.is("at(5, " + q + ")", x.at(5, q), BAD_ARG);
        }
        due.is("at(-5, -100)", x.at(-5, -100), BAD_ARG);
    }

    private void promise16Order() {
        due.sentence("Promise 16: Tested in this order: TOO_FEW; BAD_ARG");
        RealSigns x = Given.oneMark();
        for (int wrong : Given.outside(-100, 100)) {
            due.is("at(" + wrong + ", 1) of none", x.at(wrong, 1), TOO_FEW);
            due.is("at(0, " + wrong + ") of none", x.at(0, wrong), TOO_FEW);
        }
        due.is("at(0, 0) of none", x.at(0, 0), TOO_FEW);
        x.condition(0, 2);
        due.is("at(0, 0) of one", x.at(0, 0), BAD_ARG);
        due.is("at(0, 1) of one", x.at(0, 1), 1);
        x.discard();
        due.is("at(0, 0) behind discard()", x.at(0, 0), TOO_FEW);
    }

    private void promise16AtAMark() {
        due.sentence("Promise 16: 1 if it holds at p / q, else 0");
        RealSigns x = Given.eightMarks();
        pushAllMarks(x);
        for (int p = -50; p <= 50; p++) {
            int want = p != 0 && p % 10 == 0 && p >= -40 && p <= 40 ? 1 : 0;
            due.is("at(" + p + ", 10)", x.at(p, 10), want);
        }
        x.condition(3, 4);
        due.is("at(-100, 1) in the first cell", x.at(-100, 1), 1);
        due.is("at(-4, 1) behind it", x.at(-4, 1), 0);
        due.is("at(4, 1) before the last cell", x.at(4, 1), 0);
        due.is("at(100, 1) in the last cell", x.at(100, 1), 1);
    }

    private void promises17And18TooFew() {
        due.sentence("Promises 17 and 18: TOO_FEW if there are no two");
        RealSigns x = Given.oneMark();
        due.is("same() of none", x.same(), TOO_FEW);
        due.is("implies() of none", x.implies(), TOO_FEW);
        x.condition(0, 1);
        due.is("same() of one", x.same(), TOO_FEW);
        due.is("implies() of one", x.implies(), TOO_FEW);
        x.condition(0, 1);
        due.is("same() of two", x.same(), 1);
        due.is("implies() of two", x.implies(), 1);
        x.join(0);
        due.is("same() behind join", x.same(), TOO_FEW);
        due.is("implies() behind join", x.implies(), TOO_FEW);
        x.condition(0, 1);
        x.discard();
        due.is("same() behind discard", x.same(), TOO_FEW);
        due.is("implies() behind discard", x.implies(), TOO_FEW);
    }

    private void promise17Same() {
        due.sentence("Promise 17: 1 if the two topmost formulas hold at the same numbers, else 0");
        int[] wanted = {1, 0, 0, 0, 0, 0, 0, 0};
        for (int below = 0; below <= 7; below++) {
            for (int top = 0; top <= 7; top++) {
                RealSigns x = Given.oneMark();
                x.condition(0, below);
                x.condition(0, top);
                due.is("same() of " + below + " and " + top, x.same(), wanted[below ^ top]);
            }
        }
        RealSigns y = Given.eightMarks();
        y.condition(3, 4);
        y.condition(3, 6);
        due.is("same() but for the first and the last mark", y.same(), 0);
        y.set(2, 0, 1, -5);
        y.condition(2, 4);
        y.condition(0, 0);
        due.is("same() but for the last cell", y.same(), 0);
        y.condition(2, 7);
        y.condition(2, 3);
        due.is("same() of all and all but the last cell", y.same(), 0);
    }

    private void promise18Implies() {
        due.sentence("Promise 18: 1 if the one below holds only where the topmost one does, else 0");
        for (int below = 0; below <= 7; below++) {
            for (int top = 0; top <= 7; top++) {
                RealSigns x = Given.oneMark();
                x.condition(0, below);
                x.condition(0, top);
                int want = (below | top) == top ? 1 : 0;
                due.is("implies() of " + below + " and " + top, x.implies(), want);
            }
        }
        RealSigns y = Given.eightMarks();
        y.condition(3, 4);
        y.condition(3, 6);
        due.is("implies() of one that lacks two marks", y.implies(), 1);
        y.condition(3, 4);
        due.is("implies() of one that lacks none", y.implies(), 0);
        y.set(2, 0, 1, -5);
        y.condition(2, 4);
        y.condition(2, 3);
        due.is("implies() of the last cell and all but it", y.implies(), 0);
        y.condition(2, 7);
        due.is("implies() of all but the last cell and all", y.implies(), 1);
    }

    private void topmostOfAFullStack() {
        due.sentence("Promises 11 to 18: the topmost formula on the stack (the 16th, above the 15th)");
        RealSigns x = Given.oneMark();
        for (int n = 0; n < 14; n++) {
            x.condition(0, 0);
        }
        x.condition(0, 2);
        due.about(x, 1, 0, 1, 1);
        x.condition(0, 6);
        due.about(x, 1, 0, 1, 0);
        due.holds(x, 0, 1, 1);
        due.is("at(1, 1)", x.at(1, 1), 1);
        due.is("same()", x.same(), 0);
        due.is("implies()", x.implies(), 1);
    }

    private void formulasAtTheMoment() {
        due.sentence("Terms: they go with the polynomials as they are when a question is asked");
        RealSigns x = new RealSigns();
        pushAllMarks(x);
        due.about(x, 1, 1, 1, 0);
        for (int k = 0; k < 4; k++) {
            x.set(k, 1, 0, -(k + 1) * (k + 1));
        }
        due.about(x, 1, 0, 8, 8);
        due.is("holds(16)", x.holds(16), 0);
        for (int k = 0; k < 4; k++) {
            x.set(k, 0, 0, 30);
        }
        due.about(x, 0, 0, 0, 0);
        due.is("holds(0)", x.holds(0), 0);
        due.is("holds(1)", x.holds(1), NONE);
        due.is("set refused", x.set(0, 0, 31, 0), BAD_ARG);
        due.about(x, 0, 0, 0, 0);
    }
}
