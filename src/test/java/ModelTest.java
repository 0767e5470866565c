import java.util.ArrayDeque;
import java.util.ArrayList;
import java.util.Arrays;
import java.util.Collections;
import java.util.List;
import java.util.Random;
import java.util.TreeSet;

/** Long runs of calls with a fixed seed, each answer compared with that of a model written apart. */
public final class ModelTest {
    private static final int OBJECTS = 2000;
    private static final int CALLS = 512;
    private static final int MOST_SHOWN = 20;

    public static void main(String[] args) {
        Random random = new Random(20261115L);
        int wrong = 0;
        for (int object = 0; object < OBJECTS && wrong < MOST_SHOWN; object++) {
            RelooperRun real = new RelooperRun();
            Model model = new Model();
            for (int call = 1; call <= CALLS; call++) {
                int[] c = randomCall(random);
                int got = answer(real, c);
                int want = model.answer(c);
                if (got != want) {
                    wrong++;
                    System.out.println("object " + object + ", call " + call + ", " + Arrays.toString(c)
                        + " answered " + got + ", due is " + want);
                    break;
                }
            }
        }
        System.out.println(wrong == 0 ? "all answers are as due" : wrong + " objects answered wrongly");
        if (wrong != 0) {
            System.exit(1);
        }
    }

    /** The method's number in the order of the document, then its arguments, some of them wrong. */
    private static int[] randomCall(Random random) {
        int method = random.nextInt(13);
        int block = random.nextInt(25) == 0 ? random.nextInt(14) - 2 : random.nextInt(10);
        int t = random.nextInt(25) == 0 ? random.nextInt(14) - 2 : random.nextInt(10);
        int u = random.nextInt(25) == 0 ? random.nextInt(14) - 2 : random.nextInt(10);
        int v = random.nextInt(25) == 0 ? random.nextInt(8) - 2 : random.nextInt(4);
        int number = random.nextInt(6) == 0 ? random.nextInt() : random.nextInt(9) - 4;
        switch (method) {
            case 0:
                int op = random.nextInt(25) == 0 ? random.nextInt(10) - 2 : random.nextInt(6);
                return new int[] {method, block, op, v, random.nextBoolean() ? random.nextInt(4) : number};
            case 3:
                return new int[] {method, block, t};
            case 4:
                return new int[] {method, block, v, t, u};
            case 5:
                return new int[] {method, v, number};
            case 7:
                return new int[] {method, v};
            case 9:
                return new int[] {method, random.nextInt(20) - 2};
            default:
                return new int[] {method, block};
        }
    }

    private static int answer(RelooperRun x, int[] c) {
        switch (c[0]) {
            case 0: return x.assign(c[1], c[2], c[3], c[4]);
            case 1: return x.empty(c[1]);
            case 2: return x.stop(c[1]);
            case 3: return x.go(c[1], c[2]);
            case 4: return x.branch(c[1], c[2], c[3], c[4]);
            case 5: return x.set(c[1], c[2]);
            case 6: return x.run();
            case 7: return x.get(c[1]);
            case 8: return x.outputs();
            case 9: return x.output(c[1]);
            case 10: return x.visits(c[1]);
            case 11: return x.last();
            default: return x.reachable();
        }
    }

    /** The document in lists: a run is kept as the list of the blocks that it entered. */
    private static final class Model {
        private final List<List<int[]>> assignments = new ArrayList<>();
        private final List<int[]> ends = new ArrayList<>();
        private final int[] values = new int[4];
        private List<Integer> entered = new ArrayList<>();
        private List<Integer> output = new ArrayList<>();

        Model() {
            for (int block = 0; block < 10; block++) {
                assignments.add(new ArrayList<>());
                ends.add(new int[0]);
            }
        }

        int answer(int[] c) {
            switch (c[0]) {
                case 0: return assign(c);
                case 1: return empty(c[1]);
                case 2: return end(c[1], 0, new int[0]);
                case 3: return end(c[1], 0, new int[] {c[2]});
                case 4: return end(c[1], c[2], new int[] {c[3], c[4]});
                case 5: return set(c[1], c[2]);
                case 6: return run();
                case 7: return in(c[1], 4) ? values[c[1]] : 0;
                case 8: return output.size();
                case 9: return in(c[1], 16) && c[1] < output.size() ? output.get(output.size() - 1 - c[1]) : 0;
                case 10: return in(c[1], 10) ? Collections.frequency(entered, c[1]) : -1;
                case 11: return entered.isEmpty() ? -1 : entered.get(entered.size() - 1);
                default: return reachable();
            }
        }

        private static boolean in(int number, int bound) {
            return 0 <= number && number < bound;
        }

        private int assign(int[] c) {
            if (!in(c[1], 10)) return -1;
            if (!in(c[2], 6)) return -3;
            if (!in(c[3], 4)) return -2;
            if (1 <= c[2] && c[2] <= 3 && !in(c[4], 4)) return -2;
            List<int[]> list = assignments.get(c[1]);
            if (list.size() == 3) return -4;
            list.add(c);
            return list.size();
        }

        private int empty(int block) {
            if (!in(block, 10)) return -1;
            int had = assignments.get(block).size();
            assignments.get(block).clear();
            return had;
        }

        /** No target is STOP, one is GO, two are IF. */
        private int end(int block, int v, int[] targets) {
            if (!in(block, 10)) return -1;
            for (int target : targets) {
                if (!in(target, 10)) return -1;
            }
            if (!in(v, 4)) return -2;
            int[] end = new int[targets.length + 1];
            end[0] = v;
            System.arraycopy(targets, 0, end, 1, targets.length);
            ends.set(block, targets.length == 0 ? targets : end);
            return 0;
        }

        private int set(int v, int value) {
            if (!in(v, 4)) return -2;
            values[v] = value;
            return 0;
        }

        private int run() {
            entered = new ArrayList<>();
            output = new ArrayList<>();
            int block = 0;
            while (true) {
                entered.add(block);
                for (int[] c : assignments.get(block)) {
                    carryOut(c[2], c[3], c[4]);
                }
                int[] end = ends.get(block);
                if (end.length == 0) return 1;
                if (entered.size() == 300) return 2;
                block = end.length == 2 || values[end[0]] > 0 ? end[1] : end[2];
            }
        }

        private void carryOut(int op, int v, int w) {
            if (op == 0) values[v] = w;
            if (op == 1) values[v] = values[v] + values[w];
            if (op == 2) values[v] = values[v] - values[w];
            if (op == 3) values[v] = values[v] * values[w];
            if (op == 4) values[v] = values[v] + w;
            if (op == 5) output.add(values[v]);
        }

        private int reachable() {
            TreeSet<Integer> seen = new TreeSet<>();
            ArrayDeque<Integer> open = new ArrayDeque<>();
            open.add(0);
            while (!open.isEmpty()) {
                int block = open.remove();
                if (seen.add(block)) {
                    int[] end = ends.get(block);
                    for (int i = 1; i < end.length; i++) {
                        open.add(end[i]);
                    }
                }
            }
            return seen.size();
        }
    }
}
