/** One method for each promise of the document: ordinary inputs, the named edges, wrong inputs. */
public final class PromiseTest {
    private static final int SET = 0;
    private static final int ADD = 1;
    private static final int SUB = 2;
    private static final int MUL = 3;
    private static final int INC = 4;
    private static final int OUT = 5;
    private static final int[] BAD_BLOCKS = {-1, 10, Integer.MIN_VALUE, Integer.MAX_VALUE};
    private static final int[] BAD_VARIABLES = {-1, 4, Integer.MIN_VALUE, Integer.MAX_VALUE};

    private static int wrong = 0;

    private static void due(String what, int got, int want) {
        if (got != want) {
            wrong++;
            System.out.println(what + ": answered " + got + ", due is " + want);
        }
    }

    public static void main(String[] args) {
        constants();
        promise1NewObject();
        promise2Assign();
        promise2WrongAssign();
        promise2Operations();
        promise3Empty();
        promise4Stop();
        promise5Go();
        promise6Branch();
        promise7Set();
        promise8Run();
        promise8CutOff();
        promise9Get();
        promise10Outputs();
        promise11Output();
        promise12Visits();
        promise13Last();
        promise14Reachable();
        promise15Order();
        askingChangesNothing();
        System.out.println(wrong == 0 ? "all answers are as due" : wrong + " answers are not as due");
        if (wrong != 0) {
            System.exit(1);
        }
    }

    private static void constants() {
        due("BAD_BLOCK", RelooperRun.BAD_BLOCK, -1);
        due("BAD_VARIABLE", RelooperRun.BAD_VARIABLE, -2);
        due("BAD_OP", RelooperRun.BAD_OP, -3);
        due("FULL", RelooperRun.FULL, -4);
        due("STOPPED", RelooperRun.STOPPED, 1);
        due("CUT_OFF", RelooperRun.CUT_OFF, 2);
    }

    private static void promise1NewObject() {
        RelooperRun x = new RelooperRun();
        for (int v = 0; v < 4; v++) {
            due("1: get", x.get(v), 0);
        }
        for (int block = 0; block < 10; block++) {
            due("1: visits", x.visits(block), 0);
            due("1: empty", x.empty(block), 0);
        }
        due("1: outputs", x.outputs(), 0);
        due("1: output", x.output(0), 0);
        due("1: last", x.last(), -1);
        due("1: reachable", x.reachable(), 1);
        due("1: run", x.run(), 1);
        due("1: last after the run", x.last(), 0);
        for (int block = 1; block < 10; block++) {
            x.go(0, block);
            due("1: every block stops", x.run(), 1);
            due("1: in itself", x.last(), block);
        }
        due("1: another object is untouched", new RelooperRun().last(), -1);
    }

    private static void promise2Assign() {
        RelooperRun x = new RelooperRun();
        for (int block = 0; block < 10; block++) {
            due("2: first", x.assign(block, SET, 0, block), 1);
            due("2: second", x.assign(block, OUT, 0, 0), 2);
            due("2: third", x.assign(block, INC, 0, 1), 3);
            due("2: fourth", x.assign(block, SET, 0, 77), -4);
        }
        for (int block = 0; block < 9; block++) {
            x.go(block, block + 1);
        }
        due("2: run", x.run(), 1);
        due("2: full blocks are unchanged", x.get(0), 10);
        for (int back = 0; back < 10; back++) {
            due("2: in order", x.output(back), 9 - back);
        }
    }

    private static void promise2WrongAssign() {
        RelooperRun x = new RelooperRun();
        for (int bad : BAD_BLOCKS) {
            due("2: bad block", x.assign(bad, SET, 0, 5), -1);
        }
        for (int bad : new int[] {-1, 6, Integer.MIN_VALUE, Integer.MAX_VALUE}) {
            due("2: bad op", x.assign(0, bad, 0, 0), -3);
        }
        for (int bad : BAD_VARIABLES) {
            for (int op = SET; op <= OUT; op++) {
                due("2: bad v", x.assign(0, op, bad, 0), -2);
            }
            for (int op = ADD; op <= MUL; op++) {
                due("2: bad w", x.assign(0, op, 0, bad), -2);
            }
        }
        due("2: nothing was added", x.empty(0), 0);
        for (int free : BAD_VARIABLES) {
            due("2: SET takes any number", x.assign(0, SET, 0, free), 1);
            due("2: INC takes any number", x.assign(0, INC, 1, free), 2);
            due("2: OUT does not look at w", x.assign(0, OUT, 0, free), 3);
            x.set(1, 0);
            due("2: run", x.run(), 1);
            due("2: SET of any number", x.get(0), free);
            due("2: INC by any number", x.get(1), free);
            due("2: OUT of v", x.output(0), free);
            x.empty(0);
        }
    }

    private static int result(int op, int v, int w, int[] start) {
        RelooperRun x = new RelooperRun();
        for (int i = 0; i < 4; i++) {
            x.set(i, start[i]);
        }
        x.assign(0, op, v, w);
        x.run();
        for (int i = 0; i < 4; i++) {
            if (i != v) {
                due("2: op " + op + " leaves variable " + i, x.get(i), start[i]);
            }
        }
        due("2: op " + op + " outputs", x.outputs(), op == OUT ? 1 : 0);
        return x.get(v);
    }

    private static void promise2Operations() {
        int[] start = {7, -3, 100, Integer.MAX_VALUE};
        for (int v = 0; v < 4; v++) {
            for (int w = 0; w < 4; w++) {
                due("2: SET", result(SET, v, w, start), w);
                due("2: ADD", result(ADD, v, w, start), start[v] + start[w]);
                due("2: SUB", result(SUB, v, w, start), start[v] - start[w]);
                due("2: MUL", result(MUL, v, w, start), start[v] * start[w]);
                due("2: INC", result(INC, v, w, start), start[v] + w);
                due("2: OUT", result(OUT, v, w, start), start[v]);
            }
        }
        due("2: INC wraps", result(INC, 3, 1, start), Integer.MIN_VALUE);
        due("2: ADD wraps", result(ADD, 3, 3, start), -2);
        due("2: MUL wraps", result(MUL, 3, 3, start), 1);
        int[] low = {Integer.MIN_VALUE, 1, 0, 0};
        due("2: SUB wraps", result(SUB, 0, 1, low), Integer.MAX_VALUE);
    }

    private static void promise3Empty() {
        RelooperRun x = new RelooperRun();
        for (int bad : BAD_BLOCKS) {
            due("3: bad block", x.empty(bad), -1);
        }
        x.go(2, 3);
        x.go(0, 2);
        for (int had = 0; had <= 3; had++) {
            for (int i = 0; i < had; i++) {
                x.assign(2, INC, 0, 1);
            }
            x.assign(3, INC, 1, 1);
            due("3: had", x.empty(2), had);
            due("3: has none now", x.empty(2), 0);
        }
        due("3: run", x.run(), 1);
        due("3: nothing is carried out", x.get(0), 0);
        due("3: the end stays", x.last(), 3);
        due("3: other blocks stay", x.get(1), 3);
        x.assign(2, INC, 0, 1);
        x.assign(2, INC, 0, 1);
        x.assign(2, INC, 0, 1);
        x.empty(2);
        due("3: counts from 1 again", x.assign(2, SET, 0, 42), 1);
        x.run();
        due("3: only the new one", x.get(0), 42);
        due("3: had the new one", x.empty(2), 1);
    }

    private static void promise4Stop() {
        RelooperRun x = new RelooperRun();
        for (int bad : BAD_BLOCKS) {
            due("4: bad block", x.stop(bad), -1);
        }
        for (int block = 0; block < 9; block++) {
            x.go(block, block + 1);
            x.assign(block, INC, 0, 1);
        }
        x.branch(9, 0, 0, 0);
        due("4: goes round", x.run(), 2);
        for (int block = 9; block >= 0; block--) {
            x.set(0, 0);
            due("4: stop", x.stop(block), 0);
            due("4: run", x.run(), 1);
            due("4: stops there", x.last(), block);
            due("4: assignments stay", x.get(0), block == 9 ? 9 : block + 1);
        }
    }

    private static void promise5Go() {
        RelooperRun x = new RelooperRun();
        x.go(0, 1);
        for (int bad : BAD_BLOCKS) {
            due("5: bad block", x.go(bad, 2), -1);
            due("5: bad target", x.go(0, bad), -1);
            due("5: both bad", x.go(bad, bad), -1);
        }
        x.run();
        due("5: nothing changed", x.last(), 1);
        for (int t = 1; t < 10; t++) {
            due("5: go", x.go(0, t), 0);
            for (int value = -1; value <= 1; value++) {
                x.set(0, value);
                due("5: run", x.run(), 1);
                due("5: whatever the variables", x.last(), t);
            }
        }
        x.branch(0, 0, 1, 2);
        due("5: in place of IF", x.go(0, 3), 0);
        x.run();
        due("5: went", x.last(), 3);
        due("5: to itself", x.go(0, 0), 0);
        due("5: for ever", x.run(), 2);
    }

    private static void promise6Branch() {
        RelooperRun x = new RelooperRun();
        x.branch(0, 1, 2, 3);
        for (int bad : BAD_BLOCKS) {
            due("6: bad block", x.branch(bad, 0, 4, 5), -1);
            due("6: bad t", x.branch(0, 0, bad, 5), -1);
            due("6: bad u", x.branch(0, 0, 4, bad), -1);
        }
        for (int bad : BAD_VARIABLES) {
            due("6: bad v", x.branch(0, bad, 4, 5), -2);
        }
        x.run();
        due("6: nothing changed, else", x.last(), 3);
        x.set(1, 1);
        x.run();
        due("6: nothing changed, above", x.last(), 2);
        for (int v = 0; v < 4; v++) {
            due("6: branch", x.branch(0, v, 8, 9), 0);
            for (int i = 0; i < 4; i++) {
                x.set(i, i == v ? 0 : 1);
            }
            x.run();
            due("6: 0 is not above 0", x.last(), 9);
            for (int i = 0; i < 4; i++) {
                x.set(i, i == v ? 1 : -1);
            }
            x.run();
            due("6: 1 is above 0", x.last(), 8);
            x.set(v, Integer.MIN_VALUE);
            x.run();
            due("6: the least is not above 0", x.last(), 9);
            x.set(v, Integer.MAX_VALUE);
            x.run();
            due("6: the greatest is above 0", x.last(), 8);
        }
        x.set(2, 0);
        x.assign(0, SET, 2, 5);
        x.branch(0, 2, 1, 7);
        x.run();
        due("6: tested after the assignments", x.last(), 1);
    }

    private static void promise7Set() {
        RelooperRun x = new RelooperRun();
        for (int v = 0; v < 4; v++) {
            due("7: set", x.set(v, 10 + v), 0);
        }
        for (int bad : BAD_VARIABLES) {
            due("7: bad variable", x.set(bad, 99), -2);
        }
        for (int v = 0; v < 4; v++) {
            due("7: get", x.get(v), 10 + v);
        }
        for (int value : new int[] {Integer.MIN_VALUE, -1, 0, Integer.MAX_VALUE}) {
            due("7: set any", x.set(2, value), 0);
            due("7: get any", x.get(2), value);
        }
        x.assign(0, OUT, 1, 0);
        x.run();
        x.set(1, 5);
        due("7: the output stays", x.output(0), 11);
        due("7: the visits stay", x.visits(0), 1);
    }

    private static void promise8Run() {
        RelooperRun x = new RelooperRun();
        // Two entries into one cycle (1 and 2): a graph that is not structured code as it stands.
        x.branch(0, 0, 1, 2);
        x.assign(1, OUT, 1, 0);
        x.assign(1, INC, 1, -1);
        x.go(1, 2);
        x.assign(2, INC, 2, 10);
        x.assign(2, OUT, 2, 0);
        x.branch(2, 1, 1, 3);
        x.set(0, 1);
        x.set(1, 3);
        due("8: run", x.run(), 1);
        due("8: last", x.last(), 3);
        due("8: outputs", x.outputs(), 6);
        int[] output = {3, 10, 2, 20, 1, 30};
        for (int i = 0; i < 6; i++) {
            due("8: output " + i, x.output(5 - i), output[i]);
        }
        due("8: variables are kept", x.get(2), 30);
        x.set(0, 0);
        due("8: second run", x.run(), 1);
        due("8: the output begins anew", x.outputs(), 1);
        due("8: on the variables as they are", x.output(0), 40);
        due("8: nothing older is left", x.output(1), 0);
        due("8: visits begin anew", x.visits(1), 0);
        due("8: visits of the second run", x.visits(2), 1);
        x.empty(2);
        x.run();
        due("8: a run without output", x.outputs(), 0);
        due("8: has no last value", x.output(0), 0);
    }

    /** A run that makes exactly n visits to block 0 and then one to block 1. */
    private static RelooperRun loop(int n) {
        RelooperRun x = new RelooperRun();
        x.set(0, n);
        x.assign(0, INC, 0, -1);
        x.assign(0, INC, 1, 1);
        x.branch(0, 0, 0, 1);
        x.assign(1, INC, 2, 1);
        return x;
    }

    private static void promise8CutOff() {
        RelooperRun x = loop(298);
        due("8: 299 entered", x.run(), 1);
        due("8: 299 last", x.last(), 1);
        x = loop(299);
        due("8: the 300th stops", x.run(), 1);
        due("8: the 300th is last", x.last(), 1);
        due("8: the 300th is carried out", x.get(2), 1);
        due("8: visits before it", x.visits(0), 299);
        x = loop(300);
        due("8: the 300th goes on", x.run(), 2);
        due("8: cut off before going on", x.last(), 0);
        due("8: the 301st is not entered", x.visits(1), 0);
        due("8: 300 visits", x.visits(0), 300);
        due("8: the cut off block is carried out", x.get(1), 300);
        due("8: the 301st is not carried out", x.get(2), 0);
        due("8: a run after that begins anew", x.run(), 1);
        due("8: at block 0", x.visits(0), 1);
        due("8: and ends", x.last(), 1);
        x = new RelooperRun();
        for (int block = 0; block < 10; block++) {
            x.go(block, (block + 1) % 10);
        }
        due("8: a round of ten", x.run(), 2);
        due("8: is cut off in the last", x.last(), 9);
        for (int block = 0; block < 10; block++) {
            due("8: thirty each", x.visits(block), 30);
        }
    }

    private static void promise9Get() {
        RelooperRun x = new RelooperRun();
        for (int v = 0; v < 4; v++) {
            x.set(v, -5 - v);
        }
        for (int v = 0; v < 4; v++) {
            due("9: get", x.get(v), -5 - v);
        }
        for (int bad : BAD_VARIABLES) {
            due("9: bad variable", x.get(bad), 0);
        }
    }

    private static void promise10Outputs() {
        RelooperRun x = new RelooperRun();
        x.assign(0, OUT, 0, 0);
        x.assign(0, OUT, 0, 0);
        x.assign(0, OUT, 0, 0);
        due("10: before the first run", x.outputs(), 0);
        x.run();
        due("10: three", x.outputs(), 3);
        x.empty(0);
        due("10: of the last run", x.outputs(), 3);
        for (int i = 0; i < 3; i++) {
            x.assign(0, OUT, 0, 0);
        }
        x.go(0, 0);
        x.run();
        due("10: the most there can be", x.outputs(), 900);
    }

    private static void promise11Output() {
        RelooperRun x = new RelooperRun();
        x.assign(0, INC, 0, 1);
        x.assign(0, OUT, 0, 0);
        x.assign(0, INC, 1, -1);
        x.branch(0, 1, 0, 1);
        for (int n : new int[] {1, 2, 15, 16, 17, 31, 32, 33, 300}) {
            x.set(0, 100);
            x.set(1, n);
            x.run();
            due("11: outputs", x.outputs(), n);
            for (int back = 0; back <= 15; back++) {
                due("11: " + n + " values, back " + back, x.output(back), back < n ? 100 + n - back : 0);
            }
            // The document names back 0 to 15 alone; beyond that there is taken to be no value.
            for (int bad : new int[] {-1, 16, Integer.MIN_VALUE, Integer.MAX_VALUE}) {
                due("11: bad back", x.output(bad), 0);
            }
        }
        x.set(0, 5);
        due("11: values as they were", x.output(0), 400);
    }

    private static void promise12Visits() {
        RelooperRun x = loop(7);
        x.run();
        due("12: block 0", x.visits(0), 7);
        due("12: block 1", x.visits(1), 1);
        for (int block = 2; block < 10; block++) {
            due("12: not visited", x.visits(block), 0);
        }
        for (int bad : BAD_BLOCKS) {
            due("12: bad block", x.visits(bad), -1);
        }
        x.stop(0);
        x.empty(0);
        due("12: of the last run", x.visits(0), 7);
        x.run();
        due("12: begins anew", x.visits(0), 1);
        due("12: for every block", x.visits(1), 0);
    }

    private static void promise13Last() {
        RelooperRun x = new RelooperRun();
        x.go(0, 6);
        due("13: before the first", x.last(), -1);
        x.run();
        due("13: ended in", x.last(), 6);
        x.go(6, 0);
        due("13: of the last run", x.last(), 6);
        due("13: cut off", x.run(), 2);
        due("13: cut off in the 300th", x.last(), 6);
        x.go(6, 7);
        x.go(7, 0);
        x.run();
        due("13: cut off in a round of three", x.last(), 7);
        x.stop(0);
        x.run();
        due("13: block 0", x.last(), 0);
    }

    private static void promise14Reachable() {
        RelooperRun x = new RelooperRun();
        due("14: only itself", x.reachable(), 1);
        x.go(0, 0);
        due("14: itself counts once", x.reachable(), 1);
        x.stop(0);
        for (int block = 9; block >= 2; block--) {
            x.go(block, block - 1);
        }
        due("14: none leads away from 0", x.reachable(), 1);
        // Against the numbers' order, so that one pass over the blocks does not find them all.
        x.go(0, 9);
        due("14: the longest way down", x.reachable(), 10);
        x.go(1, 0);
        due("14: all in a round", x.reachable(), 10);
        x.stop(5);
        due("14: up to a stop", x.reachable(), 6);
        x.branch(0, 0, 1, 1);
        due("14: both ways the same", x.reachable(), 2);
        x.branch(0, 0, 2, 7);
        due("14: both ways", x.reachable(), 6);
        x.branch(0, 0, 7, 2);
        due("14: both ways turned", x.reachable(), 6);
        x.go(0, 3);
        due("14: GO after IF has one way", x.reachable(), 4);
        x.branch(0, 0, 5, 6);
        x.stop(0);
        due("14: STOP after IF has none", x.reachable(), 1);
        x = new RelooperRun();
        for (int block = 0; block < 9; block++) {
            x.go(block, block + 1);
            due("14: the way up", x.reachable(), block + 2);
        }
    }

    private static void promise15Order() {
        RelooperRun x = new RelooperRun();
        for (int i = 0; i < 3; i++) {
            x.assign(4, SET, 0, 0);
        }
        due("15: BAD_BLOCK before BAD_OP", x.assign(10, 6, 0, 0), -1);
        due("15: BAD_BLOCK before BAD_VARIABLE", x.assign(-1, SET, 4, 0), -1);
        due("15: BAD_BLOCK before all", x.assign(-1, -1, -1, -1), -1);
        due("15: BAD_OP before BAD_VARIABLE", x.assign(0, 6, 4, 4), -3);
        due("15: BAD_OP before FULL", x.assign(4, -1, 0, 0), -3);
        due("15: BAD_OP before both", x.assign(4, 6, -1, 0), -3);
        due("15: BAD_VARIABLE before FULL, v", x.assign(4, OUT, 4, 0), -2);
        due("15: BAD_VARIABLE before FULL, w", x.assign(4, MUL, 0, 4), -2);
        due("15: FULL", x.assign(4, MUL, 0, 3), -4);
        due("15: branch, block before v", x.branch(10, 4, 0, 0), -1);
        due("15: branch, t before v", x.branch(0, 4, 10, 0), -1);
        due("15: branch, u before v", x.branch(0, -1, 0, -1), -1);
        due("15: branch, v", x.branch(0, -1, 0, 0), -2);
        for (int block = 0; block < 10; block++) {
            due("15: visits before the first run", x.visits(block), 0);
        }
        for (int bad : BAD_BLOCKS) {
            due("15: no visits of a bad block", x.visits(bad), -1);
        }
    }

    private static void askingChangesNothing() {
        RelooperRun x = loop(4);
        x.assign(0, OUT, 0, 0);
        for (int time = 0; time < 2; time++) {
            x.set(0, 4);
            due("asking: run", x.run(), 1);
            for (int again = 0; again < 2; again++) {
                due("asking: get", x.get(0), 0);
                due("asking: outputs", x.outputs(), 4);
                due("asking: output", x.output(3), 3);
                due("asking: visits", x.visits(0), 4);
                due("asking: last", x.last(), 1);
                due("asking: reachable", x.reachable(), 2);
            }
        }
    }
}
