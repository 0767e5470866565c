import java.util.ArrayList;
import java.util.List;
import java.util.function.Supplier;

/**
 * One test for each sentence of the document that names a boundary case. A test is told by the
 * promise's number, the sentence and, where it has several, the case; what is not as due is printed
 * with it.
 *
 * A refused call is also tested to have changed nothing: the object is compared with one that was
 * not given the call, through every answer, every block's assignments and every block's end.
 */
public final class BoundaryTest {
    private static final int SET = 0;
    private static final int ADD = 1;
    private static final int SUB = 2;
    private static final int MUL = 3;
    private static final int INC = 4;
    private static final int OUT = 5;
    private static final int LEAST = Integer.MIN_VALUE;
    private static final int GREATEST = Integer.MAX_VALUE;

    // The nearest wrong numbers, the farthest, and those that a narrower number would take for 0.
    private static final int[] NOT_BLOCKS = {-1, 10, 11, -10, 256, 65536, -65536, LEAST, GREATEST};
    private static final int[] NOT_VARIABLES = {-1, 4, 5, -4, 256, 65536, -65536, LEAST, GREATEST};
    private static final int[] NOT_OPS = {-1, 6, 7, -6, 256, 65536, -65536, LEAST, GREATEST};
    private static final int[] NOT_BACKS = {-1, 16, 17, -16, 256, 65536, -65536, LEAST, GREATEST};

    private static final List<Call> QUESTIONS = questions();

    private static int tests = 0;
    private static int wrong = 0;
    private static String sentence = "";

    private interface Call {
        int on(RelooperRun x);
    }

    public static void main(String[] args) {
        terms();
        endsAndRuns();
        promise1();
        promise2();
        promises3To7();
        promises8To11();
        promises12To14();
        promise15();
        System.out.println(wrong == 0
            ? "all " + tests + " sentences hold"
            : wrong + " answers are not as due");
        if (wrong != 0) {
            System.exit(1);
        }
    }

    private static void terms() {
        test("Terms: ten BLOCKS (0 to 9)", BoundaryTest::firstAndLastBlock);
        test("Terms: four VARIABLES (0 to 3", BoundaryTest::firstAndLastVariable);
        test("Terms: ints that wrap: ADD", BoundaryTest::addWraps);
        test("Terms: ints that wrap: SUB", BoundaryTest::subWraps);
        test("Terms: ints that wrap: MUL", BoundaryTest::mulWraps);
        test("Terms: ints that wrap: INC", BoundaryTest::incWraps);
        test("Terms: ints that wrap: IF sees the wrapped value", BoundaryTest::branchAfterWrap);
        test("Terms: v and w are variables: the same one twice", BoundaryTest::sameVariableTwice);
        test("Terms: up to three ASSIGNMENTS, carried out in order", BoundaryTest::threeInOrder);
        test("Terms: w and c are not looked at where not named: OUT", BoundaryTest::outTakesAnyNumber);
        test("Terms: SET v c: c is any int", BoundaryTest::setTakesAnyNumber);
        test("Terms: INC v c: c is any int", BoundaryTest::incTakesAnyNumber);
        test("What it is: at most 512 calls", BoundaryTest::callNumber512);
        test("Terms: The calls below change nothing that any call answers", BoundaryTest::askingChangesNothing);
    }

    private static void endsAndRuns() {
        test("Terms: STOP the run ends in this block", BoundaryTest::stopGoesNowhere);
        test("Terms: GO t goes to block t", BoundaryTest::goIgnoresVariables);
        test("Terms: to block t if variable v is above 0, else to block u", BoundaryTest::aboveZero);
        test("Terms: A RUN begins at block 0", BoundaryTest::runBeginsAtBlockZero);
        test("Terms: Every time a block is entered counts 1 VISIT", BoundaryTest::everyEntryIsAVisit);
        test("Terms: If 300 blocks have been entered: not with 299", BoundaryTest::stopAt299);
        test("Terms: the last one's end is not STOP: the 300th is STOP", BoundaryTest::stopAt300);
        test("Terms: the last one's end is not STOP: the 300th is GO", BoundaryTest::goAt300);
        test("Terms: the last one's end is not STOP: the 300th is IF", BoundaryTest::branchAt300);
        test("Terms: the run is CUT OFF there: the 300th is carried out", BoundaryTest::carriedOutAt300);
        test("Terms: before going on: there is no 301st", BoundaryTest::nothingAt301);
    }

    private static void promise1() {
        test("1: All blocks are empty", BoundaryTest::newBlocksAreEmpty);
        test("1: and STOP", BoundaryTest::newBlocksStop);
        test("1: all variables 0", BoundaryTest::newVariablesAreZero);
        test("1: nothing was run", BoundaryTest::newObjectWasNotRun);
    }

    private static void promise2() {
        test("2: block not in 0 to 9: BAD_BLOCK", BoundaryTest::assignToNoBlock);
        test("2: op not in 0 to 5: BAD_OP", BoundaryTest::assignOfNoOp);
        test("2: op in 0 to 5 is taken", BoundaryTest::assignOfEveryOp);
        test("2: v not in 0 to 3: BAD_VARIABLE", BoundaryTest::assignOfNoVariable);
        test("2: for op 1 to 3 w not in 0 to 3: BAD_VARIABLE", BoundaryTest::assignFromNoVariable);
        test("2: for op 1 to 3 alone is w judged", BoundaryTest::assignOfAnyNumber);
        test("2: the block has three: FULL", BoundaryTest::assignToFullBlock);
        test("2: answers how many it has", BoundaryTest::assignCounts);
        test("2: at the end of a block", BoundaryTest::assignAddsAtTheEnd);
    }

    private static void promises3To7() {
        test("3: BAD_BLOCK", BoundaryTest::emptyOfNoBlock);
        test("3: answers how many it had", BoundaryTest::emptyCounts);
        test("3: Drops a block's assignments: a full block", BoundaryTest::emptyOfFullBlock);
        test("3: Drops a block's assignments: an empty block", BoundaryTest::emptyOfEmptyBlock);
        test("4: BAD_BLOCK", BoundaryTest::stopOfNoBlock);
        test("4: answers 0: in place of every end", BoundaryTest::stopInPlaceOfEveryEnd);
        test("5: block not in 0 to 9: BAD_BLOCK", BoundaryTest::goFromNoBlock);
        test("5: t not in 0 to 9: BAD_BLOCK", BoundaryTest::goToNoBlock);
        test("5: answers 0: in place of every end", BoundaryTest::goInPlaceOfEveryEnd);
        test("5: answers 0: to itself", BoundaryTest::goToItself);
        test("6: block not in 0 to 9: BAD_BLOCK", BoundaryTest::branchFromNoBlock);
        test("6: t not in 0 to 9: BAD_BLOCK", BoundaryTest::branchToNoT);
        test("6: u not in 0 to 9: BAD_BLOCK", BoundaryTest::branchToNoU);
        test("6: v not in 0 to 3: BAD_VARIABLE", BoundaryTest::branchOnNoVariable);
        test("6: answers 0: in place of every end", BoundaryTest::branchInPlaceOfEveryEnd);
        test("6: answers 0: to itself both ways", BoundaryTest::branchToItself);
        test("7: v not in 0 to 3: BAD_VARIABLE", BoundaryTest::setOfNoVariable);
        test("7: Sets a variable: the least and greatest ints", BoundaryTest::setOfEveryInt);
    }

    private static void promises8To11() {
        test("8: on the variables as they are", BoundaryTest::runKeepsVariables);
        test("8: on the variables as they are: after a cut", BoundaryTest::runKeepsVariablesAfterACut);
        test("8: the output begins anew", BoundaryTest::runBeginsOutputAnew);
        test("8: the output begins anew: with none", BoundaryTest::runWithoutOutput);
        test("8: Answers STOPPED", BoundaryTest::runAnswersStopped);
        test("8: or CUT_OFF", BoundaryTest::runAnswersCutOff);
        test("9: 0 if v is not in 0 to 3", BoundaryTest::getOfNoVariable);
        test("10: 0 before the first", BoundaryTest::outputsBeforeTheFirst);
        test("10: How many values: more than can be asked for", BoundaryTest::outputsBeyondSixteen);
        test("10: How many values: the most there can be", BoundaryTest::outputsAtMost);
        test("11: 0 is the last", BoundaryTest::outputZeroIsTheLast);
        test("11: back 0 to 15", BoundaryTest::outputFifteen);
        test("11: back not in 0 to 15", BoundaryTest::outputOfNoBack);
        test("11: 0 if there is none: before the first run", BoundaryTest::outputBeforeTheFirst);
        test("11: 0 if there is none: no value in the run", BoundaryTest::outputOfNone);
        test("11: 0 if there is none: back is the number of values", BoundaryTest::outputBeyondTheFirstValue);
        test("11: 0 if there is none: more in the run before", BoundaryTest::outputOfAnEarlierRun);
    }

    private static void promises12To14() {
        test("12: BAD_BLOCK", BoundaryTest::visitsOfNoBlock);
        test("12: of the last run", BoundaryTest::visitsBeginAnew);
        test("12: How many visits: none and the most", BoundaryTest::visitsNoneAndMost);
        test("13: BAD_BLOCK before the first", BoundaryTest::lastBeforeTheFirst);
        test("13: in which the last run ended", BoundaryTest::lastOfAStop);
        test("13: or was cut off", BoundaryTest::lastOfACut);
        test("14: itself counted in", BoundaryTest::reachableItself);
        test("14: itself counted in: come to again", BoundaryTest::reachableItselfOnce);
        test("14: can be come to: all ten by the longest way", BoundaryTest::reachableAll);
        test("14: can be come to from block 0: not those that lead to it", BoundaryTest::reachableFromZero);
        test("14: both ways of every IF taken to be possible", BoundaryTest::reachableBothWays);
        test("14: both ways of every IF: the same way twice", BoundaryTest::reachableSameWay);
    }

    private static void promise15() {
        test("15: assign: BAD_BLOCK before BAD_OP", BoundaryTest::blockBeforeOp);
        test("15: assign: BAD_BLOCK before BAD_VARIABLE", BoundaryTest::blockBeforeVariable);
        test("15: assign: BAD_OP before BAD_VARIABLE", BoundaryTest::opBeforeVariable);
        test("15: assign: BAD_OP before FULL", BoundaryTest::opBeforeFull);
        test("15: assign: BAD_VARIABLE before FULL", BoundaryTest::variableBeforeFull);
        test("15: branch: BAD_BLOCK is tested before BAD_VARIABLE", BoundaryTest::branchBlockBeforeVariable);
        test("15: visits: 0 for every block before the first run", BoundaryTest::visitsBeforeTheFirst);
    }

    // How a test tells what is wrong.

    private static void test(String words, Runnable body) {
        tests++;
        sentence = words;
        // A call that throws breaks its own sentence, and must not hide the others.
        try {
            body.run();
        } catch (RuntimeException thrown) {
            wrong++;
            System.out.println(sentence + " | " + thrown);
        }
    }

    private static void due(String what, long got, long want) {
        if (got != want) {
            wrong++;
            System.out.println(sentence + " | " + what + ": answered " + got + ", due is " + want);
        }
    }

    // How an object is compared with another one.

    /** A program with every kind of end and every number of assignments, not yet run. */
    private static RelooperRun program() {
        RelooperRun x = new RelooperRun();
        x.set(0, 12);
        x.set(1, -7);
        x.set(2, 11);
        x.set(3, 1);
        x.assign(0, OUT, 0, 0);
        x.assign(0, INC, 0, -1);
        x.assign(0, ADD, 2, 1);
        x.branch(0, 0, 1, 9);
        x.assign(1, OUT, 2, 0);
        x.assign(1, MUL, 1, 3);
        x.go(1, 0);
        x.assign(2, SUB, 3, 0);
        x.branch(3, 1, 4, 5);
        x.assign(4, SET, 3, 9);
        x.assign(4, OUT, 3, 0);
        x.assign(4, SUB, 2, 3);
        x.branch(4, 0, 9, 0);
        x.go(5, 5);
        x.assign(9, INC, 3, 2);
        x.assign(9, OUT, 3, 0);
        return x;
    }

    private static RelooperRun programAfterRun() {
        RelooperRun x = program();
        x.run();
        return x;
    }

    /** The call answers what is due and leaves the object as it was, before and after a run. */
    private static void changesNothing(String what, Call call, int want) {
        leavesAll(what, BoundaryTest::program, call, want);
        leavesAll(what + " after a run", BoundaryTest::programAfterRun, call, want);
    }

    private static void leavesAll(String what, Supplier<RelooperRun> made, Call call, int want) {
        due(what, call.on(made.get()), want);
        List<Integer> without = everything(made);
        List<Integer> with = everything(() -> {
            RelooperRun x = made.get();
            call.on(x);
            return x;
        });
        for (int i = 0; i < without.size(); i++) {
            if (!without.get(i).equals(with.get(i))) {
                due(what + " changed answer " + i, with.get(i), without.get(i));
                return;
            }
        }
    }

    /** Each look takes an object of its own, as a look that is wrong could hide what another shows. */
    private static List<Integer> everything(Supplier<RelooperRun> made) {
        List<Integer> seen = new ArrayList<>();
        for (Call question : QUESTIONS) {
            seen.add(question.on(made.get()));
            RelooperRun x = made.get();
            seen.add(x.run());
            seen.add(question.on(x));
        }
        for (int block = 0; block < 10; block++) {
            addAssignments(seen, made.get(), block);
            for (int signs = 0; signs < 16; signs++) {
                addEnd(seen, made.get(), block, signs);
            }
        }
        return seen;
    }

    /** Every call that answers something of the state, with every argument that is not wrong. */
    private static List<Call> questions() {
        List<Call> all = new ArrayList<>();
        for (int i = 0; i < 16; i++) {
            int number = i;
            all.add(x -> x.output(number));
            if (number < 10) {
                all.add(x -> x.visits(number));
            }
            if (number < 4) {
                all.add(x -> x.get(number));
            }
        }
        all.add(RelooperRun::outputs);
        all.add(RelooperRun::last);
        all.add(RelooperRun::reachable);
        return all;
    }

    private static void addAnswers(List<Integer> seen, RelooperRun x) {
        for (Call question : QUESTIONS) {
            seen.add(question.on(x));
        }
    }

    private static void addAssignments(List<Integer> seen, RelooperRun x, int block) {
        int[] primes = {2, 3, 5, 7};
        for (int v = 0; v < 4; v++) {
            x.set(v, primes[v]);
        }
        x.stop(block);
        if (block != 0) {
            x.empty(0);
            x.go(0, block);
        }
        seen.add(x.run());
        addAnswers(seen, x);
        seen.add(x.empty(block));
    }

    private static void addEnd(List<Integer> seen, RelooperRun x, int block, int signs) {
        for (int other = 0; other < 10; other++) {
            if (other != block) {
                x.stop(other);
            }
        }
        if (block != 0) {
            x.go(0, block);
        }
        // So large that the program's assignments leave room for both ways of every IF.
        for (int v = 0; v < 4; v++) {
            x.set(v, ((signs >> v) & 1) == 1 ? 1000 << v : -1000 << v);
        }
        seen.add(x.run());
        addAnswers(seen, x);
    }

    // Small programs that more than one test runs.

    /** Block 0 alone, with one assignment, run on the given variables 0 and 1. */
    private static int resultOf(int op, int w, int first, int second) {
        RelooperRun x = new RelooperRun();
        x.set(0, first);
        x.set(1, second);
        x.assign(0, op, 0, w);
        x.run();
        return x.get(0);
    }

    /** Enters block 0 n times and then block 1; variables 1 and 2 count what was carried out. */
    private static RelooperRun loop(int n) {
        RelooperRun x = new RelooperRun();
        x.set(0, n);
        x.assign(0, INC, 0, -1);
        x.assign(0, INC, 1, 1);
        x.branch(0, 0, 0, 1);
        x.assign(1, INC, 2, 1);
        x.assign(1, OUT, 2, 0);
        return x;
    }

    /** Has put out 101, 102 and so on, n values, n being 1 or more. */
    private static RelooperRun outputOf(int n) {
        RelooperRun x = new RelooperRun();
        x.set(0, 100);
        x.set(1, n);
        x.assign(0, INC, 0, 1);
        x.assign(0, OUT, 0, 0);
        x.assign(0, INC, 1, -1);
        x.branch(0, 1, 0, 1);
        x.run();
        return x;
    }

    private static void fill(RelooperRun x, int block) {
        for (int i = 0; i < 3; i++) {
            x.assign(block, INC, 0, 1);
        }
    }

    // Terms.

    private static void firstAndLastBlock() {
        for (int block : new int[] {0, 9}) {
            RelooperRun x = new RelooperRun();
            due("assign", x.assign(block, INC, 0, 1), 1);
            due("empty", x.empty(block), 1);
            due("stop", x.stop(block), 0);
            due("go", x.go(block, 9 - block), 0);
            due("go there", x.go(9 - block, block), 0);
            due("branch", x.branch(block, 0, 9 - block, block), 0);
            due("branch back", x.branch(block, 0, block, 9 - block), 0);
            due("branch there", x.branch(9 - block, 0, block, block), 0);
            due("run", x.run(), 2);
            due("visits", x.visits(block), 150);
        }
    }

    private static void firstAndLastVariable() {
        for (int v : new int[] {0, 3}) {
            RelooperRun x = new RelooperRun();
            due("set", x.set(v, 6), 0);
            due("get", x.get(v), 6);
            due("assign v", x.assign(0, MUL, v, v), 1);
            due("assign w", x.assign(0, ADD, 3 - v, v), 2);
            due("assign OUT", x.assign(0, OUT, v, 0), 3);
            due("branch", x.branch(0, v, 4, 5), 0);
            x.run();
            due("MUL", x.get(v), 36);
            due("ADD", x.get(3 - v), 36);
            due("OUT", x.output(0), 36);
            due("IF", x.last(), 4);
        }
    }

    private static void addWraps() {
        due("over the greatest", resultOf(ADD, 1, GREATEST, 1), LEAST);
        due("under the least", resultOf(ADD, 1, LEAST, -1), GREATEST);
        due("greatest twice", resultOf(ADD, 0, GREATEST, 0), -2);
        due("least twice", resultOf(ADD, 0, LEAST, 0), 0);
        due("up to the greatest", resultOf(ADD, 1, GREATEST - 1, 1), GREATEST);
    }

    private static void subWraps() {
        due("under the least", resultOf(SUB, 1, LEAST, 1), GREATEST);
        due("over the greatest", resultOf(SUB, 1, GREATEST, -1), LEAST);
        due("0 less the least", resultOf(SUB, 1, 0, LEAST), LEAST);
        due("down to the least", resultOf(SUB, 1, LEAST + 1, 1), LEAST);
    }

    private static void mulWraps() {
        due("greatest squared", resultOf(MUL, 0, GREATEST, 0), 1);
        due("least squared", resultOf(MUL, 0, LEAST, 0), 0);
        due("least turned", resultOf(MUL, 1, LEAST, -1), LEAST);
        due("2 to the 16th squared", resultOf(MUL, 0, 65536, 0), 0);
        due("above 2 to the 53rd", resultOf(MUL, 1, GREATEST, GREATEST - 2), 3);
    }

    private static void incWraps() {
        due("over the greatest", resultOf(INC, 1, GREATEST, 0), LEAST);
        due("under the least", resultOf(INC, -1, LEAST, 0), GREATEST);
        due("by the least", resultOf(INC, LEAST, LEAST, 0), 0);
        due("by the greatest", resultOf(INC, GREATEST, GREATEST, 0), -2);
    }

    private static void branchAfterWrap() {
        RelooperRun x = new RelooperRun();
        x.assign(0, INC, 0, 1);
        x.assign(0, OUT, 0, 0);
        x.branch(0, 0, 1, 2);
        x.set(0, GREATEST);
        x.run();
        due("the greatest and 1 is not above 0", x.last(), 2);
        due("OUT of the wrapped value", x.output(0), LEAST);
        x.empty(0);
        x.assign(0, INC, 0, -1);
        x.run();
        due("the least less 1 is above 0", x.last(), 1);
    }

    private static void sameVariableTwice() {
        due("ADD", resultOf(ADD, 0, 21, 5), 42);
        due("SUB", resultOf(SUB, 0, 21, 5), 0);
        due("MUL", resultOf(MUL, 0, -21, 5), 441);
    }

    private static void threeInOrder() {
        RelooperRun x = new RelooperRun();
        x.assign(0, SET, 0, 5);
        x.assign(0, MUL, 0, 0);
        x.assign(0, INC, 0, 2);
        x.run();
        due("5 * 5 + 2", x.get(0), 27);
        x.empty(0);
        x.assign(0, INC, 0, 3);
        x.assign(0, MUL, 0, 0);
        x.assign(0, OUT, 0, 0);
        x.run();
        due("(27 + 3) squared", x.output(0), 900);
    }

    private static void outTakesAnyNumber() {
        for (int w : NOT_VARIABLES) {
            RelooperRun x = new RelooperRun();
            x.set(3, 8);
            due("OUT with " + w, x.assign(0, OUT, 3, w), 1);
            x.run();
            due("outputs with " + w, x.outputs(), 1);
            due("output with " + w, x.output(0), 8);
            due("variable with " + w, x.get(3), 8);
        }
    }

    private static void setTakesAnyNumber() {
        for (int c : NOT_VARIABLES) {
            due("SET to " + c, resultOf(SET, c, 40, 1), c);
        }
        for (int c = 0; c < 4; c++) {
            due("SET to a number, not to variable " + c, resultOf(SET, c, 40, 50), c);
        }
    }

    private static void incTakesAnyNumber() {
        for (int c : NOT_VARIABLES) {
            due("INC by " + c, resultOf(INC, c, 40, 1), 40 + c);
        }
        for (int c = 0; c < 4; c++) {
            due("INC by a number, not by variable " + c, resultOf(INC, c, 40, 50), 40 + c);
        }
    }

    private static void callNumber512() {
        RelooperRun x = new RelooperRun();
        x.assign(0, INC, 0, 1);
        x.assign(0, OUT, 0, 0);
        x.go(0, 0);
        for (int call = 4; call <= 509; call++) {
            due("call " + call, x.run(), 2);
        }
        due("call 510", x.get(0), 506 * 300);
        due("call 511", x.outputs(), 300);
        due("call 512", x.output(15), 506 * 300 - 15);
    }

    private static void askingChangesNothing() {
        int[] numbers = {0, 3, 9, 15, -1, 16, LEAST, GREATEST};
        for (Supplier<RelooperRun> made : List.<Supplier<RelooperRun>>of(
                RelooperRun::new, BoundaryTest::program, BoundaryTest::programAfterRun)) {
            leavesAll("outputs", made, x -> x.outputs(), made.get().outputs());
            leavesAll("last", made, x -> x.last(), made.get().last());
            leavesAll("reachable", made, x -> x.reachable(), made.get().reachable());
            for (int number : numbers) {
                leavesAll("get " + number, made, x -> x.get(number), made.get().get(number));
                leavesAll("output " + number, made, x -> x.output(number), made.get().output(number));
                leavesAll("visits " + number, made, x -> x.visits(number), made.get().visits(number));
            }
        }
    }

    // Terms: ends and runs.

    private static void stopGoesNowhere() {
        for (int block = 1; block < 10; block++) {
            RelooperRun x = new RelooperRun();
            x.go(0, block);
            x.go(block, block == 9 ? 1 : block + 1);
            x.stop(block);
            x.assign(block, INC, 0, 1);
            due("run", x.run(), 1);
            due("last", x.last(), block);
            due("visits", x.visits(block), 1);
            due("its assignments are carried out", x.get(0), 1);
        }
    }

    private static void goIgnoresVariables() {
        for (int value : new int[] {LEAST, -1, 0, 1, GREATEST}) {
            RelooperRun x = new RelooperRun();
            for (int v = 0; v < 4; v++) {
                x.set(v, value);
            }
            x.go(0, 9);
            due("run", x.run(), 1);
            due("with " + value, x.last(), 9);
        }
    }

    private static void aboveZero() {
        int[] values = {LEAST, -1, 0, 1, GREATEST};
        int[] targets = {3, 3, 3, 2, 2};
        for (int v = 0; v < 4; v++) {
            for (int i = 0; i < values.length; i++) {
                RelooperRun x = new RelooperRun();
                // The other variables would lead the other way.
                for (int other = 0; other < 4; other++) {
                    x.set(other, other == v ? values[i] : values[i] > 0 ? 0 : 1);
                }
                x.branch(0, v, 2, 3);
                x.run();
                due("variable " + v + " is " + values[i], x.last(), targets[i]);
            }
        }
    }

    private static void runBeginsAtBlockZero() {
        RelooperRun x = new RelooperRun();
        x.go(0, 5);
        x.assign(0, INC, 0, 1);
        for (int time = 1; time <= 3; time++) {
            x.run();
            due("entered", x.visits(0), 1);
            due("carried out", x.get(0), time);
            due("ended", x.last(), 5);
        }
        x.go(5, 5);
        x.run();
        x.stop(0);
        due("after a cut", x.run(), 1);
        due("after a cut, in block 0", x.last(), 0);
    }

    private static void everyEntryIsAVisit() {
        RelooperRun x = loop(5);
        x.run();
        due("block 0 from itself", x.visits(0), 5);
        due("block 1", x.visits(1), 1);
        x.set(0, 0);
        x.run();
        due("block 0 as the first", x.visits(0), 1);
    }

    private static void stopAt299() {
        RelooperRun x = loop(298);
        due("run", x.run(), 1);
        due("last", x.last(), 1);
        due("visits", x.visits(0) + x.visits(1), 299);
    }

    private static void stopAt300() {
        RelooperRun x = loop(299);
        due("run", x.run(), 1);
        due("last", x.last(), 1);
        due("visits to block 0", x.visits(0), 299);
        due("visits to block 1", x.visits(1), 1);
        due("carried out", x.get(2), 1);
        due("put out", x.output(0), 1);
    }

    private static void goAt300() {
        RelooperRun x = loop(299);
        x.go(1, 2);
        due("run", x.run(), 2);
        due("last", x.last(), 1);
        due("visits to block 1", x.visits(1), 1);
        due("visits to block 2", x.visits(2), 0);
    }

    private static void branchAt300() {
        for (int value = 0; value <= 1; value++) {
            RelooperRun x = loop(299);
            x.set(3, value);
            x.branch(1, 3, 2, 4);
            due("run", x.run(), 2);
            due("last", x.last(), 1);
            due("visits to block 1", x.visits(1), 1);
            due("visits to block 2", x.visits(2), 0);
            due("visits to block 4", x.visits(4), 0);
        }
    }

    private static void carriedOutAt300() {
        RelooperRun x = loop(299);
        x.go(1, 2);
        x.run();
        due("variable", x.get(2), 1);
        due("outputs", x.outputs(), 1);
        due("output", x.output(0), 1);
    }

    private static void nothingAt301() {
        RelooperRun x = loop(300);
        due("run", x.run(), 2);
        due("last", x.last(), 0);
        due("visits to block 0", x.visits(0), 300);
        due("carried out in block 0", x.get(1), 300);
        due("visits to block 1", x.visits(1), 0);
        due("carried out in block 1", x.get(2), 0);
        due("outputs", x.outputs(), 0);
    }

    // Promise 1.

    private static void newBlocksAreEmpty() {
        for (int block = 0; block < 10; block++) {
            due("empty " + block, new RelooperRun().empty(block), 0);
            due("assign " + block, new RelooperRun().assign(block, INC, 0, 1), 1);
            RelooperRun x = new RelooperRun();
            x.go(0, block);
            x.run();
            due("outputs " + block, x.outputs(), 0);
            for (int v = 0; v < 4; v++) {
                due("variable " + v, x.get(v), 0);
            }
        }
    }

    private static void newBlocksStop() {
        RelooperRun x = new RelooperRun();
        due("reachable", x.reachable(), 1);
        due("run", x.run(), 1);
        due("last", x.last(), 0);
        for (int block = 1; block < 10; block++) {
            x = new RelooperRun();
            x.go(0, block);
            due("reachable by " + block, x.reachable(), 2);
            due("run to " + block, x.run(), 1);
            due("last", x.last(), block);
        }
    }

    private static void newVariablesAreZero() {
        for (int v = 0; v < 4; v++) {
            RelooperRun x = new RelooperRun();
            due("get " + v, x.get(v), 0);
            x.assign(0, OUT, v, 0);
            x.run();
            due("put out " + v, x.output(0), 0);
        }
    }

    private static void newObjectWasNotRun() {
        programAfterRun();
        RelooperRun x = new RelooperRun();
        due("last", x.last(), -1);
        due("outputs", x.outputs(), 0);
        for (int back = 0; back < 16; back++) {
            due("output " + back, x.output(back), 0);
        }
        for (int block = 0; block < 10; block++) {
            due("visits " + block, x.visits(block), 0);
        }
    }

    // Promise 2.

    private static void assignToNoBlock() {
        for (int block : NOT_BLOCKS) {
            changesNothing("assign to " + block, x -> x.assign(block, SET, 0, 77), -1);
        }
    }

    private static void assignOfNoOp() {
        for (int op : NOT_OPS) {
            changesNothing("op " + op, x -> x.assign(9, op, 0, 0), -3);
        }
    }

    private static void assignOfEveryOp() {
        for (int op = 0; op <= 5; op++) {
            due("op " + op, new RelooperRun().assign(9, op, 0, 0), 1);
        }
    }

    private static void assignOfNoVariable() {
        for (int v : NOT_VARIABLES) {
            for (int op = SET; op <= OUT; op++) {
                int named = op;
                changesNothing("op " + op + " of " + v, x -> x.assign(9, named, v, 0), -2);
            }
        }
    }

    private static void assignFromNoVariable() {
        for (int w : NOT_VARIABLES) {
            for (int op = ADD; op <= MUL; op++) {
                int named = op;
                changesNothing("op " + op + " with " + w, x -> x.assign(9, named, 0, w), -2);
            }
        }
    }

    private static void assignOfAnyNumber() {
        for (int w : NOT_VARIABLES) {
            due("SET " + w, new RelooperRun().assign(9, SET, 3, w), 1);
            due("INC " + w, new RelooperRun().assign(9, INC, 3, w), 1);
            due("OUT " + w, new RelooperRun().assign(9, OUT, 3, w), 1);
        }
    }

    private static void assignToFullBlock() {
        for (int op = SET; op <= OUT; op++) {
            int named = op;
            changesNothing("op " + op + " to block 0", x -> x.assign(0, named, 3, 3), -4);
            changesNothing("op " + op + " to block 4", x -> x.assign(4, named, 3, 3), -4);
        }
        RelooperRun x = new RelooperRun();
        fill(x, 9);
        due("fourth to block 9", x.assign(9, SET, 0, 77), -4);
        due("fifth to block 9", x.assign(9, SET, 0, 77), -4);
        due("block 9 still has three", x.empty(9), 3);
        due("block 8 has room", x.assign(8, SET, 0, 77), 1);
    }

    private static void assignCounts() {
        RelooperRun x = new RelooperRun();
        for (int has = 1; has <= 3; has++) {
            for (int block = 0; block < 10; block++) {
                due("block " + block, x.assign(block, INC, 0, 1), has);
            }
        }
        x = new RelooperRun();
        x.assign(2, INC, 0, 1);
        x.assign(2, 6, 0, 1);
        due("a refused one is not counted", x.assign(2, INC, 0, 1), 2);
    }

    private static void assignAddsAtTheEnd() {
        RelooperRun x = new RelooperRun();
        x.assign(0, SET, 0, 1);
        x.run();
        due("one", x.get(0), 1);
        x.assign(0, SET, 0, 2);
        x.run();
        due("two", x.get(0), 2);
        x.assign(0, SET, 0, 3);
        x.run();
        due("three", x.get(0), 3);
    }

    // Promises 3 to 7.

    private static void emptyOfNoBlock() {
        for (int block : NOT_BLOCKS) {
            changesNothing("empty " + block, x -> x.empty(block), -1);
        }
    }

    private static void emptyCounts() {
        for (int had = 0; had <= 3; had++) {
            for (int block = 0; block < 10; block++) {
                RelooperRun x = new RelooperRun();
                for (int i = 0; i < had; i++) {
                    x.assign(block, INC, 0, 1);
                }
                due("block " + block, x.empty(block), had);
                due("block " + block + " again", x.empty(block), 0);
            }
        }
    }

    private static void emptyOfFullBlock() {
        RelooperRun x = new RelooperRun();
        fill(x, 0);
        fill(x, 1);
        x.go(0, 1);
        x.empty(0);
        x.run();
        due("only block 1 is carried out", x.get(0), 3);
        due("the end stays", x.last(), 1);
        for (int has = 1; has <= 3; has++) {
            due("has room again", x.assign(0, INC, 1, 10), has);
        }
        due("is full again", x.assign(0, INC, 1, 10), -4);
        x.run();
        due("the new ones are carried out", x.get(1), 30);
        due("the old ones are not", x.get(0), 6);
    }

    private static void emptyOfEmptyBlock() {
        changesNothing("empty 3", x -> x.empty(3), 0);
    }

    private static void stopOfNoBlock() {
        for (int block : NOT_BLOCKS) {
            changesNothing("stop " + block, x -> x.stop(block), -1);
        }
    }

    private static void stopInPlaceOfEveryEnd() {
        changesNothing("in place of STOP", x -> x.stop(9), 0);
        RelooperRun x = new RelooperRun();
        x.go(0, 1);
        due("in place of GO", x.stop(0), 0);
        due("run", x.run(), 1);
        due("last", x.last(), 0);
        x.branch(0, 0, 1, 2);
        due("in place of IF", x.stop(0), 0);
        due("run", x.run(), 1);
        due("last", x.last(), 0);
    }

    private static void goFromNoBlock() {
        for (int block : NOT_BLOCKS) {
            changesNothing("go from " + block, x -> x.go(block, 2), -1);
            changesNothing("go from and to " + block, x -> x.go(block, block), -1);
        }
    }

    private static void goToNoBlock() {
        for (int t : NOT_BLOCKS) {
            // One block of each end, as a refused call could change any of them.
            changesNothing("STOP to " + t, x -> x.go(9, t), -1);
            changesNothing("GO to " + t, x -> x.go(1, t), -1);
            changesNothing("IF to " + t, x -> x.go(0, t), -1);
        }
    }

    private static void goInPlaceOfEveryEnd() {
        RelooperRun x = new RelooperRun();
        due("in place of STOP", x.go(0, 9), 0);
        x.run();
        due("last", x.last(), 9);
        due("in place of GO", x.go(0, 8), 0);
        x.run();
        due("last", x.last(), 8);
        for (int value = 0; value <= 1; value++) {
            x.set(3, value);
            x.branch(0, 3, 1, 2);
            due("in place of IF", x.go(0, 7), 0);
            x.run();
            due("last", x.last(), 7);
        }
    }

    private static void goToItself() {
        for (int block = 0; block < 10; block++) {
            RelooperRun x = new RelooperRun();
            x.go(0, block);
            due("go", x.go(block, block), 0);
            due("run", x.run(), 2);
            due("visits", x.visits(block), block == 0 ? 300 : 299);
        }
    }

    private static void branchFromNoBlock() {
        for (int block : NOT_BLOCKS) {
            changesNothing("branch from " + block, x -> x.branch(block, 0, 2, 3), -1);
            changesNothing("branch from and to " + block, x -> x.branch(block, 0, block, block), -1);
        }
    }

    private static void branchToNoT() {
        for (int t : NOT_BLOCKS) {
            changesNothing("STOP to " + t, x -> x.branch(9, 2, t, 3), -1);
            changesNothing("GO to " + t, x -> x.branch(1, 2, t, 3), -1);
            changesNothing("IF to " + t, x -> x.branch(0, 2, t, 3), -1);
        }
    }

    private static void branchToNoU() {
        for (int u : NOT_BLOCKS) {
            changesNothing("STOP to " + u, x -> x.branch(9, 2, 3, u), -1);
            changesNothing("GO to " + u, x -> x.branch(1, 2, 3, u), -1);
            changesNothing("IF to " + u, x -> x.branch(0, 2, 3, u), -1);
        }
    }

    private static void branchOnNoVariable() {
        for (int v : NOT_VARIABLES) {
            changesNothing("STOP on " + v, x -> x.branch(9, v, 3, 4), -2);
            changesNothing("GO on " + v, x -> x.branch(1, v, 3, 4), -2);
            changesNothing("IF on " + v, x -> x.branch(0, v, 3, 4), -2);
        }
    }

    private static void branchInPlaceOfEveryEnd() {
        for (int value = 0; value <= 1; value++) {
            RelooperRun x = new RelooperRun();
            x.set(2, value);
            due("in place of STOP", x.branch(0, 2, 9, 8), 0);
            x.run();
            due("last", x.last(), 8 + value);
            x.go(0, 1);
            due("in place of GO", x.branch(0, 2, 7, 6), 0);
            x.run();
            due("last", x.last(), 6 + value);
            x.set(3, 1 - value);
            due("in place of IF", x.branch(0, 3, 4, 5), 0);
            x.run();
            due("last", x.last(), 4 + value);
        }
    }

    private static void branchToItself() {
        for (int value = 0; value <= 1; value++) {
            RelooperRun x = new RelooperRun();
            x.set(0, value);
            due("branch", x.branch(0, 0, 0, 0), 0);
            due("run", x.run(), 2);
            due("visits", x.visits(0), 300);
        }
    }

    private static void setOfNoVariable() {
        for (int v : NOT_VARIABLES) {
            changesNothing("set " + v, x -> x.set(v, 77), -2);
        }
    }

    private static void setOfEveryInt() {
        for (int value : new int[] {LEAST, -1, 0, 1, GREATEST}) {
            for (int v = 0; v < 4; v++) {
                RelooperRun x = new RelooperRun();
                x.set(v, 5);
                due("set", x.set(v, value), 0);
                for (int other = 0; other < 4; other++) {
                    due("get " + other, x.get(other), other == v ? value : 0);
                }
            }
        }
    }

    // Promises 8 to 11.

    private static void runKeepsVariables() {
        RelooperRun x = new RelooperRun();
        for (int v = 0; v < 4; v++) {
            x.set(v, v - 2);
        }
        x.run();
        x.run();
        for (int v = 0; v < 4; v++) {
            due("an empty program leaves " + v, x.get(v), v - 2);
        }
        x.assign(0, INC, 3, 10);
        x.run();
        x.run();
        due("two runs add up", x.get(3), 21);
    }

    private static void runKeepsVariablesAfterACut() {
        RelooperRun x = loop(301);
        due("first", x.run(), 2);
        due("is cut at", x.get(0), 1);
        due("second", x.run(), 1);
        due("goes on from there", x.get(1), 301);
    }

    private static void runBeginsOutputAnew() {
        RelooperRun x = outputOf(20);
        x.set(0, 500);
        x.set(1, 1);
        x.run();
        due("outputs", x.outputs(), 1);
        due("output", x.output(0), 501);
    }

    private static void runWithoutOutput() {
        RelooperRun x = outputOf(20);
        x.empty(0);
        due("run", x.run(), 1);
        due("outputs", x.outputs(), 0);
        due("output", x.output(0), 0);
    }

    private static void runAnswersStopped() {
        due("the shortest", new RelooperRun().run(), RelooperRun.STOPPED);
        due("the longest", loop(299).run(), RelooperRun.STOPPED);
        due("is 1", RelooperRun.STOPPED, 1);
    }

    private static void runAnswersCutOff() {
        due("one more", loop(300).run(), RelooperRun.CUT_OFF);
        due("far more", loop(GREATEST).run(), RelooperRun.CUT_OFF);
        due("is 2", RelooperRun.CUT_OFF, 2);
    }

    private static void getOfNoVariable() {
        for (int v : NOT_VARIABLES) {
            RelooperRun x = new RelooperRun();
            for (int i = 0; i < 4; i++) {
                x.set(i, 9);
            }
            due("get " + v, x.get(v), 0);
        }
    }

    private static void outputsBeforeTheFirst() {
        due("a new object", new RelooperRun().outputs(), 0);
        due("a program with OUT", program().outputs(), 0);
    }

    private static void outputsBeyondSixteen() {
        for (int n : new int[] {1, 15, 16, 17, 32, 33, 256, 300}) {
            due("outputs", outputOf(n).outputs(), n);
        }
    }

    private static void outputsAtMost() {
        RelooperRun x = new RelooperRun();
        for (int i = 0; i < 3; i++) {
            x.assign(0, OUT, 0, 0);
        }
        x.go(0, 0);
        x.run();
        due("three from each of 300", x.outputs(), 900);
    }

    private static void outputZeroIsTheLast() {
        for (int n : new int[] {1, 2, 15, 16, 17, 32, 33, 300}) {
            due("of " + n, outputOf(n).output(0), 100 + n);
        }
    }

    private static void outputFifteen() {
        for (int n : new int[] {16, 17, 31, 32, 33, 300}) {
            due("14 of " + n, outputOf(n).output(14), 100 + n - 14);
            due("15 of " + n, outputOf(n).output(15), 100 + n - 15);
        }
    }

    // The document says nothing of these apart from "0 if there is none".
    private static void outputOfNoBack() {
        for (int back : NOT_BACKS) {
            due(back + " of one", outputOf(1).output(back), 0);
            due(back + " of 16", outputOf(16).output(back), 0);
            due(back + " of 300", outputOf(300).output(back), 0);
        }
    }

    private static void outputBeforeTheFirst() {
        for (int back = 0; back < 16; back++) {
            due("a new object", new RelooperRun().output(back), 0);
            due("a program with OUT", program().output(back), 0);
        }
    }

    private static void outputOfNone() {
        RelooperRun x = new RelooperRun();
        x.set(0, 9);
        x.run();
        for (int back = 0; back < 16; back++) {
            due("back " + back, x.output(back), 0);
        }
    }

    private static void outputBeyondTheFirstValue() {
        for (int n = 1; n <= 15; n++) {
            RelooperRun x = outputOf(n);
            due("the first of " + n, x.output(n - 1), 101);
            for (int back = n; back <= 15; back++) {
                due(back + " of " + n, x.output(back), 0);
            }
        }
    }

    private static void outputOfAnEarlierRun() {
        RelooperRun x = outputOf(16);
        x.set(1, 2);
        x.run();
        due("back 1", x.output(1), 117);
        for (int back = 2; back <= 15; back++) {
            due("back " + back, x.output(back), 0);
        }
    }

    // Promises 12 to 14.

    private static void visitsOfNoBlock() {
        for (int block : NOT_BLOCKS) {
            changesNothing("visits " + block, x -> x.visits(block), -1);
        }
    }

    private static void visitsBeginAnew() {
        RelooperRun x = new RelooperRun();
        for (int block = 0; block < 10; block++) {
            x.go(block, (block + 1) % 10);
        }
        x.run();
        x.stop(0);
        for (int block = 0; block < 10; block++) {
            due("a changed end leaves " + block, x.visits(block), 30);
        }
        x.run();
        for (int block = 0; block < 10; block++) {
            due("the next run to " + block, x.visits(block), block == 0 ? 1 : 0);
        }
    }

    private static void visitsNoneAndMost() {
        RelooperRun x = new RelooperRun();
        x.go(0, 0);
        x.run();
        due("the most", x.visits(0), 300);
        for (int block = 1; block < 10; block++) {
            due("none to " + block, x.visits(block), 0);
        }
    }

    private static void lastBeforeTheFirst() {
        due("a new object", new RelooperRun().last(), RelooperRun.BAD_BLOCK);
        due("a program", program().last(), RelooperRun.BAD_BLOCK);
        due("is -1", RelooperRun.BAD_BLOCK, -1);
    }

    private static void lastOfAStop() {
        for (int block = 0; block < 10; block++) {
            RelooperRun x = new RelooperRun();
            x.go(0, block);
            x.stop(block);
            x.run();
            due("block " + block, x.last(), block);
            x.go(0, 9 - block);
            x.stop(0);
            due("a changed end leaves it", x.last(), block);
        }
    }

    private static void lastOfACut() {
        for (int length = 1; length <= 10; length++) {
            RelooperRun x = new RelooperRun();
            for (int block = 0; block < length; block++) {
                x.go(block, (block + 1) % length);
            }
            due("run", x.run(), 2);
            due("a round of " + length, x.last(), 299 % length);
        }
    }

    private static void reachableItself() {
        RelooperRun x = new RelooperRun();
        due("a new object", x.reachable(), 1);
        x.go(0, 5);
        due("with one other", x.reachable(), 2);
        x.stop(0);
        due("none again", x.reachable(), 1);
    }

    private static void reachableItselfOnce() {
        RelooperRun x = new RelooperRun();
        x.go(0, 0);
        due("GO to itself", x.reachable(), 1);
        x.branch(0, 0, 0, 0);
        due("IF to itself", x.reachable(), 1);
        x.go(0, 5);
        x.go(5, 0);
        due("by way of another", x.reachable(), 2);
    }

    private static void reachableAll() {
        RelooperRun up = new RelooperRun();
        RelooperRun down = new RelooperRun();
        for (int block = 0; block < 9; block++) {
            up.go(block, block + 1);
        }
        due("the way up", up.reachable(), 10);
        for (int block = 9; block > 1; block--) {
            down.go(block, block - 1);
        }
        down.go(0, 9);
        due("the way down", down.reachable(), 10);
        down.stop(9);
        due("cut after one jump", down.reachable(), 2);
    }

    private static void reachableFromZero() {
        RelooperRun x = new RelooperRun();
        for (int block = 1; block < 10; block++) {
            x.branch(block, 0, 0, (block + 1) % 10);
        }
        due("all lead to 0", x.reachable(), 1);
        x.go(0, 9);
        due("0 leads to 9", x.reachable(), 2);
    }

    private static void reachableBothWays() {
        for (int value : new int[] {-1, 0, 1}) {
            RelooperRun x = new RelooperRun();
            for (int v = 0; v < 4; v++) {
                x.set(v, value);
            }
            x.branch(0, 0, 1, 2);
            due("before a run", x.reachable(), 3);
            x.branch(1, 1, 3, 4);
            x.branch(2, 2, 5, 6);
            x.branch(4, 3, 7, 8);
            due("of every IF", x.reachable(), 9);
            x.run();
            due("after a run", x.reachable(), 9);
        }
    }

    private static void reachableSameWay() {
        RelooperRun x = new RelooperRun();
        x.branch(0, 0, 7, 7);
        due("one block", x.reachable(), 2);
        x.branch(7, 0, 0, 7);
        due("none that is new", x.reachable(), 2);
    }

    // Promise 15: block 0 of the program is full, block 9 is not.

    private static void blockBeforeOp() {
        changesNothing("both", x -> x.assign(10, 6, 0, 0), -1);
        changesNothing("both below", x -> x.assign(-1, -1, 0, 0), -1);
        changesNothing("all that is tested later", x -> x.assign(-1, 6, -1, 4), -1);
    }

    private static void blockBeforeVariable() {
        changesNothing("v", x -> x.assign(10, SET, 4, 0), -1);
        changesNothing("w", x -> x.assign(-1, ADD, 0, -1), -1);
    }

    private static void opBeforeVariable() {
        changesNothing("above", x -> x.assign(9, 6, 4, 4), -3);
        changesNothing("below", x -> x.assign(9, -1, -1, -1), -3);
    }

    private static void opBeforeFull() {
        changesNothing("above", x -> x.assign(0, 6, 0, 0), -3);
        changesNothing("below", x -> x.assign(0, -1, 0, 0), -3);
        changesNothing("and before BAD_VARIABLE", x -> x.assign(0, 6, 4, 4), -3);
    }

    private static void variableBeforeFull() {
        for (int op = SET; op <= OUT; op++) {
            int named = op;
            changesNothing("v of op " + op, x -> x.assign(0, named, 4, 0), -2);
        }
        for (int op = ADD; op <= MUL; op++) {
            int named = op;
            changesNothing("w of op " + op, x -> x.assign(0, named, 0, -1), -2);
        }
    }

    private static void branchBlockBeforeVariable() {
        changesNothing("block", x -> x.branch(10, 4, 1, 2), -1);
        changesNothing("t", x -> x.branch(0, 4, -1, 2), -1);
        changesNothing("u", x -> x.branch(0, -1, 1, 10), -1);
        changesNothing("all", x -> x.branch(-1, -1, -1, -1), -1);
    }

    private static void visitsBeforeTheFirst() {
        for (int block = 0; block < 10; block++) {
            due("a new object, " + block, new RelooperRun().visits(block), 0);
            due("a program, " + block, program().visits(block), 0);
        }
    }
}
