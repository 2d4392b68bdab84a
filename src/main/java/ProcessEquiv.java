/** Tells which states of a small machine behave alike. */
public final class ProcessEquiv {
    public static final int NONE = -1;

    private static final int STATES = 8;
    private static final int LABELS = 3;
    private static final int SILENT = 0;
    private static final int ALL_STATES = 255;
    private static final int STATE_LABELS = 24;
    private static final int PAIRS = 64;

    // A set of states is an int with bit b for state b; the set for a state and a label stands at
    // state * LABELS + label, what belongs to a pair of states at one * STATES + other.
    private final int[] stepSets = new int[STATE_LABELS];

    // All below is worked out anew by each call that needs it, so it can never be out of date.
    private final int[] longStepSets = new int[STATE_LABELS];
    private final int[] silentReach = new int[STATES];
    private final int[] apart = new int[STATES];
    private final int[] apartBefore = new int[STATES];
    private final int[] apartWithStep = new int[STATES];
    private final int[] toldRound = new int[PAIRS];
    private final int[] following = new int[STATES];
    private int lastRound;

    public ProcessEquiv() {
    }

    public boolean join(int a, int b, int l) {
        if (!isState(a) || !isState(b) || !isLabel(l)) {
            return false;
        }
        stepSets[a * LABELS + l] |= 1 << b;
        return true;
    }

    public boolean cut(int a, int b, int l) {
        if (!hasStep(a, b, l)) {
            return false;
        }
        stepSets[a * LABELS + l] &= ~(1 << b);
        return true;
    }

    public int steps() {
        int count = 0;
        for (int i = 0; i < STATE_LABELS; i++) {
            for (int b = 0; b < STATES; b++) {
                count += (stepSets[i] >> b) & 1;
            }
        }
        return count;
    }

    public int after(int a, int l) {
        if (!isState(a) || !isLabel(l)) {
            return 0;
        }
        return stepSets[a * LABELS + l];
    }

    public boolean alike(int a, int b) {
        if (!isState(a) || !isState(b)) {
            return false;
        }
        tellApart(stepSets);
        return !contains(apart[a], b);
    }

    public int group(int a) {
        if (!isState(a)) {
            return 0;
        }
        tellApart(stepSets);
        return ALL_STATES & ~apart[a];
    }

    public int groups() {
        tellApart(stepSets);
        return countGroups();
    }

    public int toldAfter(int a, int b) {
        if (!isState(a) || !isState(b)) {
            return NONE;
        }
        tellApart(stepSets);
        return contains(apart[a], b) ? toldRound[a * STATES + b] : NONE;
    }

    public int rounds() {
        tellApart(stepSets);
        return lastRound;
    }

    public boolean looselyAlike(int a, int b) {
        if (!isState(a) || !isState(b)) {
            return false;
        }
        makeLongSteps();
        tellApart(longStepSets);
        return !contains(apart[a], b);
    }

    public int looseGroups() {
        makeLongSteps();
        tellApart(longStepSets);
        return countGroups();
    }

    public boolean follows(int b, int a) {
        if (!isState(a) || !isState(b)) {
            return false;
        }
        findFollowing();
        return contains(following[a], b);
    }

    public int followers(int a) {
        if (!isState(a)) {
            return 0;
        }
        findFollowing();
        return following[a];
    }

    public int silently(int a) {
        if (!isState(a)) {
            return 0;
        }
        return reachSilently(a);
    }

    public boolean idle(int a, int b, int l) {
        if (!hasStep(a, b, l)) {
            return false;
        }
        tellApart(stepSets);
        copyStates(apart, apartWithStep);
        stepSets[a * LABELS + l] &= ~(1 << b);
        tellApart(stepSets);
        stepSets[a * LABELS + l] |= 1 << b;
        return sameStates(apart, apartWithStep);
    }

    private static boolean isState(int a) {
        return a >= 0 && a < STATES;
    }

    private static boolean isLabel(int l) {
        return l >= 0 && l < LABELS;
    }

    private static boolean contains(int set, int b) {
        return ((set >> b) & 1) != 0;
    }

    private boolean hasStep(int a, int b, int l) {
        return isState(a) && isState(b) && isLabel(l) && contains(stepSets[a * LABELS + l], b);
    }

    private static void copyStates(int[] from, int[] to) {
        for (int a = 0; a < STATES; a++) {
            to[a] = from[a];
        }
    }

    private static boolean sameStates(int[] one, int[] other) {
        for (int a = 0; a < STATES; a++) {
            if (one[a] != other[a]) {
                return false;
            }
        }
        return true;
    }

    /** A round that tells nothing apart is the last, and 8 states can be split at most 7 times. */
    private void tellApart(int[] moves) {
        for (int a = 0; a < STATES; a++) {
            apart[a] = 0;
        }
        lastRound = 0;
        for (int round = 1; round < STATES; round++) {
            // A round looks only at what the round before it knew, so that is kept aside.
            copyStates(apart, apartBefore);
            playRound(moves, round);
            if (sameStates(apart, apartBefore)) {
                return;
            }
            lastRound = round;
        }
    }

    private void playRound(int[] moves, int round) {
        for (int a = 0; a < STATES; a++) {
            for (int b = 0; b < a; b++) {
                if (contains(apartBefore[a], b)) {
                    continue;
                }
                if (canTell(moves, a, b) || canTell(moves, b, a)) {
                    apart[a] |= 1 << b;
                    apart[b] |= 1 << a;
                    toldRound[a * STATES + b] = round;
                    toldRound[b * STATES + a] = round;
                }
            }
        }
    }

    /** Whether a has a step that b cannot answer, as far as the round before knew. */
    private boolean canTell(int[] moves, int a, int b) {
        for (int l = 0; l < LABELS; l++) {
            int answers = moves[b * LABELS + l];
            for (int c = 0; c < STATES; c++) {
                if (contains(moves[a * LABELS + l], c) && (answers & ~apartBefore[c]) == 0) {
                    return true;
                }
            }
        }
        return false;
    }

    /** Each group is counted once, at its least state. */
    private int countGroups() {
        int count = 0;
        for (int a = 0; a < STATES; a++) {
            int lesser = (1 << a) - 1;
            if ((lesser & ~apart[a]) == 0) {
                count++;
            }
        }
        return count;
    }

    /** No state is more than 7 silent steps away, so as many widenings reach them all. */
    private int reachSilently(int a) {
        int reached = 1 << a;
        for (int i = 1; i < STATES; i++) {
            reached |= stepFrom(reached, SILENT);
        }
        return reached;
    }

    private int stepFrom(int set, int l) {
        int found = 0;
        for (int a = 0; a < STATES; a++) {
            if (contains(set, a)) {
                found |= stepSets[a * LABELS + l];
            }
        }
        return found;
    }

    private void makeLongSteps() {
        for (int a = 0; a < STATES; a++) {
            silentReach[a] = reachSilently(a);
        }
        for (int a = 0; a < STATES; a++) {
            longStepSets[a * LABELS + SILENT] = silentReach[a];
            for (int l = SILENT + 1; l < LABELS; l++) {
                int stepped = stepFrom(silentReach[a], l);
                longStepSets[a * LABELS + l] = widenSilently(stepped);
            }
        }
    }

    private int widenSilently(int set) {
        int found = 0;
        for (int a = 0; a < STATES; a++) {
            if (contains(set, a)) {
                found |= silentReach[a];
            }
        }
        return found;
    }

    /**
     * Starts from all pairs and strikes out those that fail, which leaves the greatest relation.
     * Each pass but the last strikes out a pair, and there are 64 pairs.
     */
    private void findFollowing() {
        for (int a = 0; a < STATES; a++) {
            following[a] = ALL_STATES;
        }
        boolean changed = true;
        for (int pass = 0; changed && pass <= PAIRS; pass++) {
            changed = strikeFollowing();
        }
    }

    private boolean strikeFollowing() {
        boolean changed = false;
        for (int a = 0; a < STATES; a++) {
            for (int b = 0; b < STATES; b++) {
                if (contains(following[a], b) && !canFollow(b, a)) {
                    following[a] &= ~(1 << b);
                    changed = true;
                }
            }
        }
        return changed;
    }

    private boolean canFollow(int b, int a) {
        for (int l = 0; l < LABELS; l++) {
            int answers = stepSets[b * LABELS + l];
            for (int c = 0; c < STATES; c++) {
                if (contains(stepSets[a * LABELS + l], c) && (answers & following[c]) == 0) {
                    return false;
                }
            }
        }
        return true;
    }
}
