/**
 * Programs given as a graph of blocks with arbitrary jumps, run as structured code.
 *
 * The structured form is the plainest one: a single loop with one helping variable, the block that
 * comes next. The document leaves the form open, as no call can see it.
 */
public final class RelooperRun {
    public static final int BAD_BLOCK = -1;
    public static final int BAD_VARIABLE = -2;
    public static final int BAD_OP = -3;
    public static final int FULL = -4;
    public static final int STOPPED = 1;
    public static final int CUT_OFF = 2;

    private static final int BLOCKS = 10;
    private static final int VARIABLES = 4;
    private static final int SLOTS_PER_BLOCK = 3;
    private static final int SLOTS = BLOCKS * SLOTS_PER_BLOCK;
    private static final int MOST_VISITS = 300;
    private static final int OUTPUTS_KEPT = 16;

    private static final int SET_OP = 0;
    private static final int ADD_OP = 1;
    private static final int SUB_OP = 2;
    private static final int MUL_OP = 3;
    private static final int INC_OP = 4;
    private static final int OUT_OP = 5;

    private final int[] variables = new int[VARIABLES];

    private final int[] assignmentCounts = new int[BLOCKS];
    private final int[] ops = new int[SLOTS];
    private final int[] changed = new int[SLOTS];
    private final int[] operands = new int[SLOTS];

    // A block that does not go on ends with STOP, so that new blocks stop without being told to.
    private final boolean[] goesOn = new boolean[BLOCKS];
    private final int[] testedVariables = new int[BLOCKS];
    private final int[] targetsAbove = new int[BLOCKS];
    private final int[] targetsElse = new int[BLOCKS];

    private final int[] visitCounts = new int[BLOCKS];
    // A ring: only the newest values can be asked for, whatever the length of the output.
    private final int[] newestOutputs = new int[OUTPUTS_KEPT];
    private int outputCount = 0;
    private int lastBlock = BAD_BLOCK;

    public RelooperRun() {
    }

    public int assign(int block, int op, int v, int w) {
        if (!isBlock(block)) {
            return BAD_BLOCK;
        }
        if (op < SET_OP || op > OUT_OP) {
            return BAD_OP;
        }
        if (!isVariable(v) || (readsSecondVariable(op) && !isVariable(w))) {
            return BAD_VARIABLE;
        }
        if (assignmentCounts[block] >= SLOTS_PER_BLOCK) {
            return FULL;
        }
        int slot = block * SLOTS_PER_BLOCK + assignmentCounts[block];
        ops[slot] = op;
        changed[slot] = v;
        operands[slot] = w;
        assignmentCounts[block]++;
        return assignmentCounts[block];
    }

    public int empty(int block) {
        if (!isBlock(block)) {
            return BAD_BLOCK;
        }
        int had = assignmentCounts[block];
        assignmentCounts[block] = 0;
        return had;
    }

    public int stop(int block) {
        if (!isBlock(block)) {
            return BAD_BLOCK;
        }
        goesOn[block] = false;
        return 0;
    }

    public int go(int block, int t) {
        if (!isBlock(block) || !isBlock(t)) {
            return BAD_BLOCK;
        }
        // With the same target both ways, the tested variable does not matter.
        endWithTargets(block, 0, t, t);
        return 0;
    }

    public int branch(int block, int v, int t, int u) {
        if (!isBlock(block) || !isBlock(t) || !isBlock(u)) {
            return BAD_BLOCK;
        }
        if (!isVariable(v)) {
            return BAD_VARIABLE;
        }
        endWithTargets(block, v, t, u);
        return 0;
    }

    public int set(int v, int value) {
        if (!isVariable(v)) {
            return BAD_VARIABLE;
        }
        variables[v] = value;
        return 0;
    }

    public int run() {
        forgetLastRun();
        int block = 0;
        for (int entered = 1; entered <= MOST_VISITS; entered++) {
            visit(block);
            if (!goesOn[block]) {
                return STOPPED;
            }
            block = targetOf(block);
        }
        return CUT_OFF;
    }

    public int get(int v) {
        return isVariable(v) ? variables[v] : 0;
    }

    public int outputs() {
        return outputCount;
    }

    public int output(int back) {
        if (back < 0 || back >= OUTPUTS_KEPT || back >= outputCount) {
            return 0;
        }
        return newestOutputs[(outputCount - 1 - back) % OUTPUTS_KEPT];
    }

    public int visits(int block) {
        return isBlock(block) ? visitCounts[block] : BAD_BLOCK;
    }

    public int last() {
        return lastBlock;
    }

    public int reachable() {
        int reached = 1;
        // A shortest way to a block makes at most BLOCKS - 1 jumps, and each round follows one more.
        for (int jumps = 1; jumps < BLOCKS; jumps++) {
            reached = withTargets(reached);
        }
        return countOf(reached);
    }

    private boolean isBlock(int block) {
        return block >= 0 && block < BLOCKS;
    }

    private boolean isVariable(int v) {
        return v >= 0 && v < VARIABLES;
    }

    private boolean readsSecondVariable(int op) {
        return op == ADD_OP || op == SUB_OP || op == MUL_OP;
    }

    private void endWithTargets(int block, int v, int above, int otherwise) {
        goesOn[block] = true;
        testedVariables[block] = v;
        targetsAbove[block] = above;
        targetsElse[block] = otherwise;
    }

    private void forgetLastRun() {
        outputCount = 0;
        for (int block = 0; block < BLOCKS; block++) {
            visitCounts[block] = 0;
        }
    }

    private void visit(int block) {
        visitCounts[block]++;
        lastBlock = block;
        int first = block * SLOTS_PER_BLOCK;
        int end = first + assignmentCounts[block];
        for (int slot = first; slot < end; slot++) {
            carryOut(slot);
        }
    }

    private void carryOut(int slot) {
        int v = changed[slot];
        int w = operands[slot];
        switch (ops[slot]) {
            case SET_OP:
                variables[v] = w;
                break;
            case ADD_OP:
                variables[v] += variables[w];
                break;
            case SUB_OP:
                variables[v] -= variables[w];
                break;
            case MUL_OP:
                variables[v] *= variables[w];
                break;
            case INC_OP:
                variables[v] += w;
                break;
            default:
                append(variables[v]);
                break;
        }
    }

    private void append(int value) {
        newestOutputs[outputCount % OUTPUTS_KEPT] = value;
        outputCount++;
    }

    private int targetOf(int block) {
        return variables[testedVariables[block]] > 0 ? targetsAbove[block] : targetsElse[block];
    }

    private int withTargets(int reached) {
        int wider = reached;
        for (int block = 0; block < BLOCKS; block++) {
            if (goesOn[block] && (reached & (1 << block)) != 0) {
                wider |= (1 << targetsAbove[block]) | (1 << targetsElse[block]);
            }
        }
        return wider;
    }

    private int countOf(int reached) {
        int count = 0;
        for (int block = 0; block < BLOCKS; block++) {
            count += (reached >> block) & 1;
        }
        return count;
    }
}
