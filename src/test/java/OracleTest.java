import java.util.ArrayList;
import java.util.Arrays;
import java.util.List;

/**
 * Long runs of calls on many machines, each answer beside that of a model that follows the
 * document's words literally, over tables of booleans. The runs are the same every time.
 */
public final class OracleTest {
    private static final int CALLS = 512;
    // More than the 28 pairs that can be told apart, so the last round in the table is past all change.
    private static final int MANY_ROUNDS = 30;

    private static int wrong = 0;
    private static long seed = 20261115L;

    private static int pick(int bound) {
        seed = seed * 6364136223846793005L + 1442695040888963407L;
        return (int) ((seed >>> 33) % bound);
    }

    /** The steps, and what the document's terms say of them. */
    private static final class Model {
        final boolean[][][] step = new boolean[3][8][8];
        boolean[][][] told;
        boolean[][][] looselyTold;
        boolean[][] silent;
        boolean[][] follows;

        void settle() {
            told = tellApart(step);
            silent = closure(step[0]);
            looselyTold = tellApart(longSteps());
            follows = greatestFollowing();
        }

        static boolean[][][] tellApart(boolean[][][] step) {
            boolean[][][] told = new boolean[MANY_ROUNDS + 1][8][8];
            for (int n = 0; n < MANY_ROUNDS; n++) {
                for (int a = 0; a < 8; a++) {
                    for (int b = 0; b < 8; b++) {
                        told[n + 1][a][b] = unanswered(step, told[n], a, b) || unanswered(step, told[n], b, a);
                    }
                }
            }
            return told;
        }

        static boolean unanswered(boolean[][][] step, boolean[][] told, int a, int b) {
            for (int l = 0; l < 3; l++) {
                for (int c = 0; c < 8; c++) {
                    if (step[l][a][c]) {
                        boolean apartFromEvery = true;
                        for (int d = 0; d < 8; d++) {
                            apartFromEvery &= !step[l][b][d] || told[c][d];
                        }
                        if (apartFromEvery) {
                            return true;
                        }
                    }
                }
            }
            return false;
        }

        static boolean[][] closure(boolean[][] edge) {
            boolean[][] path = new boolean[8][8];
            for (int a = 0; a < 8; a++) {
                path[a] = edge[a].clone();
                path[a][a] = true;
            }
            for (int via = 0; via < 8; via++) {
                for (int a = 0; a < 8; a++) {
                    for (int b = 0; b < 8; b++) {
                        path[a][b] |= path[a][via] && path[via][b];
                    }
                }
            }
            return path;
        }

        static boolean[][] product(boolean[][] one, boolean[][] other) {
            boolean[][] out = new boolean[8][8];
            for (int a = 0; a < 8; a++) {
                for (int via = 0; via < 8; via++) {
                    for (int b = 0; b < 8; b++) {
                        out[a][b] |= one[a][via] && other[via][b];
                    }
                }
            }
            return out;
        }

        boolean[][][] longSteps() {
            boolean[][] one = product(product(silent, step[1]), silent);
            boolean[][] two = product(product(silent, step[2]), silent);
            return new boolean[][][] {silent, one, two};
        }

        boolean[][] greatestFollowing() {
            boolean[][] now = new boolean[8][8];
            for (boolean[] row : now) {
                Arrays.fill(row, true);
            }
            for (int pass = 0; pass < 65; pass++) {
                boolean[][] next = new boolean[8][8];
                for (int b = 0; b < 8; b++) {
                    for (int a = 0; a < 8; a++) {
                        next[b][a] = now[b][a] && answersAll(now, b, a);
                    }
                }
                now = next;
            }
            return now;
        }

        boolean answersAll(boolean[][] follows, int b, int a) {
            for (int l = 0; l < 3; l++) {
                for (int c = 0; c < 8; c++) {
                    boolean answered = !step[l][a][c];
                    for (int d = 0; d < 8; d++) {
                        answered |= step[l][b][d] && follows[d][c];
                    }
                    if (!answered) {
                        return false;
                    }
                }
            }
            return true;
        }

        int toldAfter(int a, int b) {
            for (int n = 0; n <= MANY_ROUNDS; n++) {
                if (told[n][a][b]) {
                    return n;
                }
            }
            return -1;
        }

        int rounds() {
            int n = 0;
            while (!Arrays.deepEquals(told[n], told[MANY_ROUNDS])) {
                n++;
            }
            return n;
        }

        static int groups(boolean[][][] told) {
            List<String> seen = new ArrayList<>();
            for (boolean[] row : told[MANY_ROUNDS]) {
                String group = Arrays.toString(row);
                if (!seen.contains(group)) {
                    seen.add(group);
                }
            }
            return seen.size();
        }

        boolean idle(int a, int b, int l) {
            if (!isStep(a, b, l)) {
                return false;
            }
            step[l][a][b] = false;
            boolean[][][] without = tellApart(step);
            step[l][a][b] = true;
            return Arrays.deepEquals(without[MANY_ROUNDS], told[MANY_ROUNDS]);
        }

        boolean isStep(int a, int b, int l) {
            return isState(a) && isState(b) && isLabel(l) && step[l][a][b];
        }

        int steps() {
            int count = 0;
            for (int i = 0; i < 192; i++) {
                count += step[i / 64][i / 8 % 8][i % 8] ? 1 : 0;
            }
            return count;
        }
    }

    private static boolean isState(int a) {
        return 0 <= a && a <= 7;
    }

    private static boolean isLabel(int l) {
        return 0 <= l && l <= 2;
    }

    private static int bits(boolean[] row) {
        int set = 0;
        for (int b = 0; b < 8; b++) {
            set += row[b] ? 1 << b : 0;
        }
        return set;
    }

    private static boolean[] not(boolean[] row) {
        boolean[] out = new boolean[8];
        for (int b = 0; b < 8; b++) {
            out[b] = !row[b];
        }
        return out;
    }

    private static void due(String call, int got, int want) {
        if (got != want) {
            wrong++;
            if (wrong <= 40) {
                System.out.println(call + " answered " + got + ", due is " + want);
            }
        }
    }

    private static void due(String call, boolean got, boolean want) {
        due(call, got ? 1 : 0, want ? 1 : 0);
    }

    private static void join(ProcessEquiv x, Model m, int a, int b, int l) {
        boolean good = isState(a) && isState(b) && isLabel(l);
        due("join(" + a + ", " + b + ", " + l + ")", x.join(a, b, l), good);
        if (good && !m.step[l][a][b]) {
            m.step[l][a][b] = true;
            m.settle();
        }
    }

    private static void cut(ProcessEquiv x, Model m, int a, int b, int l) {
        boolean good = m.isStep(a, b, l);
        due("cut(" + a + ", " + b + ", " + l + ")", x.cut(a, b, l), good);
        if (good) {
            m.step[l][a][b] = false;
            m.settle();
        }
    }

    private static void askWhole(ProcessEquiv x, Model m) {
        due("steps()", x.steps(), m.steps());
        due("groups()", x.groups(), Model.groups(m.told));
        due("rounds()", x.rounds(), m.rounds());
        due("looseGroups()", x.looseGroups(), Model.groups(m.looselyTold));
    }

    private static void askOne(ProcessEquiv x, Model m, int a) {
        boolean good = isState(a);
        String of = "(" + a + ")";
        due("group" + of, x.group(a), good ? bits(not(m.told[MANY_ROUNDS][a])) : 0);
        due("silently" + of, x.silently(a), good ? bits(m.silent[a]) : 0);
        int followers = 0;
        for (int b = 0; b < 8 && good; b++) {
            followers += m.follows[b][a] ? 1 << b : 0;
        }
        due("followers" + of, x.followers(a), followers);
    }

    private static void askTwo(ProcessEquiv x, Model m, int a, int b) {
        boolean good = isState(a) && isState(b);
        String of = "(" + a + ", " + b + ")";
        due("alike" + of, x.alike(a, b), good && !m.told[MANY_ROUNDS][a][b]);
        due("toldAfter" + of, x.toldAfter(a, b), good ? m.toldAfter(a, b) : -1);
        due("looselyAlike" + of, x.looselyAlike(a, b), good && !m.looselyTold[MANY_ROUNDS][a][b]);
        due("follows" + of, x.follows(a, b), good && m.follows[a][b]);
    }

    private static void askStep(ProcessEquiv x, Model m, int a, int b, int l) {
        boolean good = isState(a) && isLabel(l);
        due("after(" + a + ", " + l + ")", x.after(a, l), good ? bits(m.step[l][a]) : 0);
        due("idle(" + a + ", " + b + ", " + l + ")", x.idle(a, b, l), m.idle(a, b, l));
    }

    /** Mostly a right value, now and then one just or far outside. */
    private static int stray(int bound) {
        switch (pick(40)) {
            case 0: return -1;
            case 1: return bound;
            case 2: return pick(2) == 0 ? Integer.MIN_VALUE : Integer.MAX_VALUE;
            default: return pick(bound);
        }
    }

    /** Kinds of machine that chance alone would seldom make. */
    private static void joinOfKind(ProcessEquiv x, Model m, int kind) {
        int a = pick(8);
        int b = pick(8);
        int l = pick(3);
        switch (kind) {
            case 0: // any step
                join(x, m, a, b, l);
                break;
            case 1: // two halves that mirror each other, so that many states are alike
                join(x, m, a, b, l);
                join(x, m, a ^ 4, pick(2) == 0 ? b : b ^ 4, l);
                break;
            case 2: // mostly silent
                join(x, m, a, b, pick(3) == 0 ? l : 0);
                break;
            case 3: // one label and near states, so that many rounds are needed
                join(x, m, a, (a + 1 + pick(5) / 4) & 7, pick(8) == 0 ? 0 : 1);
                break;
            default: // downhill only, so that following goes one way
                join(x, m, a | b, a & b, l);
                break;
        }
    }

    /** Changes and questions mixed, up to the last call the document binds. */
    private static void mixedRun(int kind) {
        ProcessEquiv x = new ProcessEquiv();
        Model m = new Model();
        m.settle();
        int calls = 0;
        while (calls <= CALLS - 4) {
            int what = pick(10);
            if (what < 3) {
                joinOfKind(x, m, kind);
                calls += 2;
            } else if (what == 3) {
                join(x, m, stray(8), stray(8), stray(3));
                calls++;
            } else if (what == 4) {
                cut(x, m, stray(8), stray(8), stray(3));
                calls++;
            } else if (what == 5) {
                askWhole(x, m);
                calls += 4;
            } else if (what == 6) {
                askOne(x, m, stray(8));
                calls += 3;
            } else if (what < 9) {
                askTwo(x, m, stray(8), stray(8));
                calls += 4;
            } else {
                askStep(x, m, stray(8), stray(8), stray(3));
                calls += 2;
            }
        }
    }

    /** A machine made once and asked all there is to ask of states and pairs, and of its steps. */
    private static void fullRun(int kind, int joins) {
        ProcessEquiv x = new ProcessEquiv();
        Model m = new Model();
        m.settle();
        for (int i = 0; i < joins; i++) {
            joinOfKind(x, m, kind);
        }
        askWhole(x, m);
        for (int a = 0; a < 8; a++) {
            askOne(x, m, a);
            for (int b = 0; b < 8; b++) {
                askTwo(x, m, a, b);
            }
        }
        for (int i = 0, asked = 0; i < 192 && asked < 60; i++) {
            if (m.step[i / 64][i / 8 % 8][i % 8]) {
                askStep(x, m, i / 8 % 8, i % 8, i / 64);
                asked++;
            }
        }
        askWhole(x, m);
    }

    /** Nearly all steps are there, so that what is told apart hangs on the few that are not. */
    private static void denseRun() {
        ProcessEquiv x = new ProcessEquiv();
        Model m = new Model();
        for (int i = 0; i < 192; i++) {
            if (pick(12) != 0) {
                due("dense join", x.join(i / 8 % 8, i % 8, i / 64), true);
                m.step[i / 64][i / 8 % 8][i % 8] = true;
            }
        }
        m.settle();
        askWhole(x, m);
        for (int a = 0; a < 8; a++) {
            askOne(x, m, a);
            askTwo(x, m, a, pick(8));
            askStep(x, m, a, pick(8), pick(3));
        }
    }

    public static void main(String[] args) {
        for (int i = 0; i < 60; i++) {
            for (int kind = 0; kind < 5; kind++) {
                mixedRun(kind);
                fullRun(kind, 3 + pick(14));
            }
            denseRun();
        }
        System.out.println(wrong == 0 ? "all answers are as due" : wrong + " answers are not as due");
        if (wrong != 0) {
            System.exit(1);
        }
    }
}
