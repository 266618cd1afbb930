import java.util.ArrayList;
import java.util.List;
import java.util.function.Supplier;

/**
 * "No call ever throws. A refused call answers the code named and changes nothing."
 *
 * Each refused call is made in each of some states; what the object answers behind it is held
 * against a twin that was never refused anything.
 */
public final class RefusedCallsTest {
    private static final int BAD_ARG = RealSigns.BAD_ARG;
    private static final int FULL = RealSigns.FULL;
    private static final int TOO_FEW = RealSigns.TOO_FEW;
    private static final int NONE = RealSigns.NONE;
    private static final int[] WILD = {
        Integer.MIN_VALUE, Integer.MIN_VALUE + 1, -65536, -256, -101, -100, -31, -30, -1, 0, 1, 2, 3, 4,
        7, 8, 16, 17, 30, 31, 32, 100, 101, 256, 65536, Integer.MAX_VALUE - 1, Integer.MAX_VALUE};
    private static final int NOT_REFUSED = 0;

    private interface Call {
        int on(RealSigns x);
    }

    private record Refused(String name, int code, Call call) {
    }

    private record State(String name, int made, int depth, int lastCell, Supplier<RealSigns> object) {
    }

    private final Due due = new Due();

    public static void main(String[] args) {
        RefusedCallsTest test = new RefusedCallsTest();
        for (State state : states()) {
            test.due.sentence("Terms: A refused call changes nothing; state: " + state.name);
            for (Refused refused : refusedIn(state)) {
                test.changesNothing(state, refused);
            }
            test.due.sentence("Terms: No call ever throws; state: " + state.name);
            test.wildArguments(state);
        }
        test.wildSets();
        test.due.end();
    }

    private static List<State> states() {
        return List.of(
                new State("new", 0, 0, 0, RealSigns::new),
                new State("eight marks, no formula", 0, 0, 16, Given::eightMarks),
                new State("one mark, one formula", 1, 1, 2, () -> withConditions(Given.oneMark(), 1)),
                new State("eight marks, two formulas", 2, 2, 16, () -> withConditions(Given.eightMarks(), 2)),
                new State("eight marks, five formulas", 5, 5, 16, () -> withConditions(Given.eightMarks(), 5)),
                new State("15 made, one left", 15, 1, 2, () -> joined(8)),
                new State("16 made, one left", 16, 1, 2, RefusedCallsTest::joinedAndTurned),
                new State("16 made, all on the stack", 16, 16, 16, () -> withConditions(Given.eightMarks(), 16)),
                new State("emptied", 0, 0, 16, RefusedCallsTest::emptied));
    }

    private static RealSigns withConditions(RealSigns x, int count) {
        for (int n = 0; n < count; n++) {
            x.condition(n % 4, n % 7 + 1);
        }
        return x;
    }

    private static RealSigns joined(int count) {
        RealSigns x = withConditions(Given.oneMark(), count);
        for (int n = 1; n < count; n++) {
            x.join(n % 2);
        }
        return x;
    }

    private static RealSigns joinedAndTurned() {
        RealSigns x = joined(8);
        x.not();
        return x;
    }

    private static RealSigns emptied() {
        RealSigns x = withConditions(Given.eightMarks(), 16);
        x.discard();
        return x;
    }

    private static List<Refused> refusedIn(State state) {
        List<Refused> all = new ArrayList<>();
        addBadArguments(all);
        for (int i : Given.outside(0, state.lastCell)) {
            all.add(new Refused("sign(0, " + i + ")", NONE, x -> x.sign(0, i)));
            all.add(new Refused("holds(" + i + ")", state.depth < 1 ? TOO_FEW : NONE, x -> x.holds(i)));
        }
        for (int p : Given.outside(-100, 100)) {
            int code = state.depth < 1 ? TOO_FEW : BAD_ARG;
            all.add(new Refused("at(" + p + ", 1)", code, x -> x.at(p, 1)));
            all.add(new Refused("at(1, " + p + ")", code, x -> x.at(1, p)));
        }
        if (state.made == 16) {
            all.add(new Refused("condition(0, 1)", FULL, x -> x.condition(0, 1)));
        }
        if (state.made == 16 || state.depth < 1) {
            all.add(new Refused("not()", state.made == 16 ? FULL : TOO_FEW, RealSigns::not));
        }
        if (state.made == 16 || state.depth < 2) {
            int code = state.made == 16 ? FULL : TOO_FEW;
            all.add(new Refused("join(0)", code, x -> x.join(0)));
            all.add(new Refused("join(1)", code, x -> x.join(1)));
        }
        addTooFew(all, state.depth);
        return all;
    }

    private static void addBadArguments(List<Refused> all) {
        for (int k : Given.outside(0, 3)) {
            all.add(new Refused("set(" + k + ", 1, 1, -1)", BAD_ARG, x -> x.set(k, 1, 1, -1)));
            all.add(new Refused("sign(" + k + ", 0)", BAD_ARG, x -> x.sign(k, 0)));
            all.add(new Refused("zeros(" + k + ")", BAD_ARG, x -> x.zeros(k)));
            all.add(new Refused("condition(" + k + ", 1)", BAD_ARG, x -> x.condition(k, 1)));
        }
        for (int v : Given.outside(-30, 30)) {
            all.add(new Refused("set(0, " + v + ", 1, -1)", BAD_ARG, x -> x.set(0, v, 1, -1)));
            all.add(new Refused("set(1, 1, " + v + ", -1)", BAD_ARG, x -> x.set(1, 1, v, -1)));
            all.add(new Refused("set(2, 1, 1, " + v + ")", BAD_ARG, x -> x.set(2, 1, 1, v)));
        }
        for (int s : Given.outside(0, 7)) {
            all.add(new Refused("condition(0, " + s + ")", BAD_ARG, x -> x.condition(0, s)));
        }
        for (int op : Given.outside(0, 1)) {
            all.add(new Refused("join(" + op + ")", BAD_ARG, x -> x.join(op)));
        }
        for (int p : Given.outside(-100, 100)) {
            all.add(new Refused("cellOf(" + p + ", 1)", BAD_ARG, x -> x.cellOf(p, 1)));
            all.add(new Refused("cellOf(1, " + p + ")", BAD_ARG, x -> x.cellOf(1, p)));
        }
        all.add(new Refused("cellOf(1, 0)", BAD_ARG, x -> x.cellOf(1, 0)));
    }

    private static void addTooFew(List<Refused> all, int depth) {
        if (depth < 1) {
            all.add(new Refused("some()", TOO_FEW, RealSigns::some));
            all.add(new Refused("every()", TOO_FEW, RealSigns::every));
            all.add(new Refused("pieces()", TOO_FEW, RealSigns::pieces));
            all.add(new Refused("points()", TOO_FEW, RealSigns::points));
            all.add(new Refused("holds(0)", TOO_FEW, x -> x.holds(0)));
            all.add(new Refused("at(0, 1)", TOO_FEW, x -> x.at(0, 1)));
        }
        if (depth < 2) {
            all.add(new Refused("same()", TOO_FEW, RealSigns::same));
            all.add(new Refused("implies()", TOO_FEW, RealSigns::implies));
        }
    }

    private void changesNothing(State state, Refused refused) {
        RealSigns x = state.object.get();
        due.is(refused.name, refused.call.on(x), refused.code);
        List<Integer> got = answersBehind(x);
        List<Integer> want = answersBehind(state.object.get());
        for (int n = 0; n < want.size(); n++) {
            due.is("answer " + n + " behind " + refused.name, got.get(n), want.get(n));
        }
    }

    /** Some 340 calls whose answers tell all that can be seen of the object's state. */
    private static List<Integer> answersBehind(RealSigns x) {
        List<Integer> answers = new ArrayList<>();
        askAll(x, answers);
        for (int n = 0; n < 4; n++) {
            answers.add(x.join(n % 2));
            askFormulas(x, answers);
        }
        for (int k = 0; k < 4; k++) {
            answers.add(x.set(k, k - 1, k + 1, -5));
        }
        askAll(x, answers);
        for (int n = 0; n < 17; n++) {
            answers.add(x.condition(0, 1));
        }
        answers.add(x.discard());
        for (int n = 0; n < 17; n++) {
            answers.add(x.condition(0, 1));
        }
        return answers;
    }

    private static void askAll(RealSigns x, List<Integer> answers) {
        answers.add(x.marks());
        for (int k = 0; k < 4; k++) {
            answers.add(x.zeros(k));
            for (int i = 0; i <= 16; i++) {
                answers.add(x.sign(k, i));
            }
        }
        for (int p = -5; p <= 5; p++) {
            answers.add(x.cellOf(p, 1));
        }
        askFormulas(x, answers);
    }

    private static void askFormulas(RealSigns x, List<Integer> answers) {
        for (int i = 0; i <= 16; i++) {
            answers.add(x.holds(i));
        }
        answers.add(x.pieces());
        answers.add(x.points());
        answers.add(x.same());
        answers.add(x.implies());
    }

    private static boolean isFrom(int from, int to, int v) {
        return v >= from && v <= to;
    }

    private void codeIs(String call, int got, int code) {
        if (code != NOT_REFUSED) {
            due.is(call, got, code);
        } else {
            due.is(call + " is answered, not refused", isFrom(-1, 17, got) ? 1 : 0, 1);
        }
    }

    private void wildArguments(State state) {
        for (int v : WILD) {
            oneWildArgument(state, v);
            RealSigns x = state.object.get();
            for (int w : WILD) {
                twoWildArguments(state, x, v, w);
            }
            for (int w : WILD) {
                wildCondition(state, v, w);
            }
        }
    }

    private void oneWildArgument(State state, int v) {
        RealSigns x = state.object.get();
        codeIs("zeros(" + v + ")", x.zeros(v), isFrom(0, 3, v) ? NOT_REFUSED : BAD_ARG);
        codeIs("holds(" + v + ")", x.holds(v), state.depth < 1 ? TOO_FEW
                : isFrom(0, state.lastCell, v) ? NOT_REFUSED : NONE);
        codeIs("join(" + v + ")", x.join(v), !isFrom(0, 1, v) ? BAD_ARG : state.made == 16 ? FULL
                : state.depth < 2 ? TOO_FEW : NOT_REFUSED);
    }

    private void twoWildArguments(State state, RealSigns x, int v, int w) {
        boolean isFraction = isFrom(-100, 100, v) && isFrom(1, 100, w);
        codeIs("sign(" + v + ", " + w + ")", x.sign(v, w), !isFrom(0, 3, v) ? BAD_ARG
                : isFrom(0, state.lastCell, w) ? NOT_REFUSED : NONE);
        codeIs("cellOf(" + v + ", " + w + ")", x.cellOf(v, w), isFraction ? NOT_REFUSED : BAD_ARG);
        codeIs("at(" + v + ", " + w + ")", x.at(v, w), state.depth < 1 ? TOO_FEW
                : isFraction ? NOT_REFUSED : BAD_ARG);
    }

    private void wildCondition(State state, int k, int s) {
        RealSigns x = state.object.get();
        boolean fine = isFrom(0, 3, k) && isFrom(0, 7, s);
        codeIs("condition(" + k + ", " + s + ")", x.condition(k, s),
                !fine ? BAD_ARG : state.made == 16 ? FULL : NOT_REFUSED);
    }

    private void wildSets() {
        due.sentence("Terms: No call ever throws; Promise 2");
        for (int k : WILD) {
            for (int a : WILD) {
                for (int b : WILD) {
                    RealSigns x = Given.eightMarks();
                    for (int c : WILD) {
                        boolean fine = isFrom(0, 3, k) && isFrom(-30, 30, a) && isFrom(-30, 30, b)
                                && isFrom(-30, 30, c);
                        due.is("set(" + k + ", " + a + ", " + b + ", " + c + ")", x.set(k, a, b, c),
                                fine ? 0 : BAD_ARG);
                        due.is("marks() behind it is 6 to 8", isFrom(6, 8, x.marks()) ? 1 : 0, 1);
                    }
                }
            }
        }
    }
}
