/** Promises 11 to 18 on ordinary inputs: the questions about formulas. QuestionEdgesTest has the edges. */
public final class QuestionsTest {
    private final Due due = new Due();

    public static void main(String[] args) {
        QuestionsTest test = new QuestionsTest();
        test.promise11And12SomeAndEvery();
        test.promise13And14PiecesAndPoints();
        test.wholeLine();
        test.eightMarks();
        test.promise15Holds();
        test.promise16At();
        test.promise17Same();
        test.promise18Implies();
        test.formulasGoWithThePolynomials();
        test.questionsChangeNothing();
        test.due.end();
    }

    private void promise11And12SomeAndEvery() {
        RealSigns x = new RealSigns();
        x.set(0, 1, 0, -2);
        x.set(1, 1, 0, 1);
        x.condition(0, 0);
        due.about(x, 0, 0, 0, 0);
        x.condition(0, 7);
        due.about(x, 1, 1, 1, 0);
        x.condition(1, 4);
        due.about(x, 1, 1, 1, 0);
        x.condition(1, 3);
        due.about(x, 0, 0, 0, 0);
        x.condition(2, 2);
        due.about(x, 1, 1, 1, 0);
        x.condition(2, 5);
        due.about(x, 0, 0, 0, 0);
        x.condition(0, 5);
        due.about(x, 1, 0, 3, 0);
    }

    private void promise13And14PiecesAndPoints() {
        RealSigns x = new RealSigns();
        x.set(0, 1, 0, -2);
        x.set(1, 0, 1, 0);
        x.set(2, 1, 0, 0);
        x.condition(0, 2);
        due.about(x, 1, 0, 2, 2);
        x.condition(0, 3);
        due.about(x, 1, 0, 1, 0);
        x.condition(0, 6);
        due.about(x, 1, 0, 2, 0);
        x.condition(2, 2);
        due.about(x, 1, 0, 1, 1);
        x.join(1);
        due.about(x, 1, 0, 3, 1);
        x.condition(1, 1);
        x.condition(1, 4);
        x.join(1);
        due.about(x, 1, 0, 2, 0);
        x.discard();
        x.condition(1, 5);
        x.condition(0, 1);
        x.join(0);
        due.about(x, 1, 0, 2, 0);
        due.holds(x, 0, 0, 1, 0, 1, 0, 0);
    }

    private void wholeLine() {
        RealSigns x = new RealSigns();
        x.condition(3, 2);
        due.about(x, 1, 1, 1, 0);
        due.holds(x, 1);
        x.not();
        due.about(x, 0, 0, 0, 0);
        due.holds(x, 0);
    }

    private void eightMarks() {
        RealSigns x = new RealSigns();
        int[] under = {2, 3, 5, 7};
        for (int k = 0; k < 4; k++) {
            x.set(k, 1, 0, -under[k]);
            x.condition(k, 2);
        }
        x.join(1);
        x.join(1);
        x.join(1);
        due.about(x, 1, 0, 8, 8);
        due.holds(x, 0, 1, 0, 1, 0, 1, 0, 1, 0, 1, 0, 1, 0, 1, 0, 1, 0);
        x.not();
        due.about(x, 1, 0, 9, 0);
        due.holds(x, 1, 0, 1, 0, 1, 0, 1, 0, 1, 0, 1, 0, 1, 0, 1, 0, 1);
        x.condition(2, 7);
        due.about(x, 1, 1, 1, 0);
        x.condition(3, 2);
        due.about(x, 1, 0, 2, 2);
    }

    private void promise15Holds() {
        RealSigns x = new RealSigns();
        x.set(0, 1, -3, 2);
        x.condition(0, 6);
        due.holds(x, 1, 1, 0, 1, 1);
        x.condition(0, 1);
        due.holds(x, 0, 0, 1, 0, 0);
    }

    private void promise16At() {
        RealSigns x = new RealSigns();
        x.set(0, 1, 0, -2);
        x.set(1, 0, 3, 1);
        x.condition(0, 1);
        due.is("at(41, 29)", x.at(41, 29), 1);
        due.is("at(99, 70)", x.at(99, 70), 0);
        due.is("at(-41, 29)", x.at(-41, 29), 1);
        due.is("at(-99, 70)", x.at(-99, 70), 0);
        due.is("at(-100, 1)", x.at(-100, 1), 0);
        due.is("at(100, 100)", x.at(100, 100), 1);
        x.condition(1, 2);
        due.is("at(-1, 3)", x.at(-1, 3), 1);
        due.is("at(-33, 99)", x.at(-33, 99), 1);
        due.is("at(-33, 100)", x.at(-33, 100), 0);
        due.is("at(1, 3)", x.at(1, 3), 0);
    }

    private void promise17Same() {
        RealSigns x = new RealSigns();
        x.set(0, 1, 0, -2);
        x.set(1, -3, 0, 6);
        x.set(2, 0, 0, 5);
        x.condition(0, 1);
        x.condition(1, 4);
        due.is("same() of two that are", x.same(), 1);
        x.condition(1, 6);
        due.is("same() of two with other marks", x.same(), 0);
        x.condition(2, 3);
        due.is("same() of some and none", x.same(), 0);
        x.condition(0, 0);
        due.is("same() of none and none", x.same(), 1);
        x.not();
        due.is("same() of none and all", x.same(), 0);
        x.condition(2, 4);
        due.is("same() of all and all", x.same(), 1);
    }

    private void promise18Implies() {
        RealSigns x = new RealSigns();
        x.set(0, 1, 0, -2);
        x.set(1, 1, 0, -3);
        x.condition(0, 1);
        x.condition(1, 1);
        due.is("implies() of the narrow one and the wide one", x.implies(), 1);
        due.is("same()", x.same(), 0);
        x.condition(0, 1);
        due.is("implies() of the wide one and the narrow one", x.implies(), 0);
        x.condition(0, 1);
        due.is("implies() of two that are the same", x.implies(), 1);
        x.condition(0, 0);
        due.is("implies() of some and none", x.implies(), 0);
        x.condition(1, 2);
        due.is("implies() of none and some", x.implies(), 1);
        x.condition(1, 1);
        due.is("implies() of two that are apart", x.implies(), 0);
        x.condition(3, 2);
        due.is("implies() of some and all", x.implies(), 1);
    }

    private void formulasGoWithThePolynomials() {
        RealSigns x = new RealSigns();
        x.condition(0, 1);
        x.not();
        x.condition(1, 6);
        due.is("same() with both 0", x.same(), 1);
        x.set(0, 0, 1, 0);
        due.is("same()", x.same(), 0);
        due.is("implies()", x.implies(), 1);
        x.set(1, 0, 2, 0);
        due.is("same()", x.same(), 1);
        due.holds(x, 0, 1, 1);
        x.set(1, 1, 0, -1);
        due.is("same()", x.same(), 0);
        due.holds(x, 1, 1, 0, 0, 0, 1, 1);
        due.is("join(0)", x.join(0), 1);
        due.holds(x, 0, 0, 0, 0, 0, 1, 1);
        x.set(0, 0, 0, -1);
        due.about(x, 0, 0, 0, 0);
    }

    private void questionsChangeNothing() {
        RealSigns x = new RealSigns();
        x.set(0, 1, 0, -2);
        x.set(1, 0, 1, -1);
        x.condition(0, 1);
        x.condition(1, 6);
        for (int n = 0; n < 20; n++) {
            due.about(x, 1, 0, 1, 0);
            due.is("same()", x.same(), 0);
            due.is("implies()", x.implies(), 0);
            due.is("at(1, 1)", x.at(1, 1), 1);
            due.is("holds(4)", x.holds(4), 1);
            due.is("marks()", x.marks(), 3);
        }
        due.is("join(0)", x.join(0), 1);
        due.holds(x, 0, 0, 0, 1, 1, 0, 0);
    }
}
