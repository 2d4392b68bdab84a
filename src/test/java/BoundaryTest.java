import java.util.ArrayList;
import java.util.Arrays;
import java.util.List;

/**
 * Each sentence of the document that names a boundary case, with a test of its own. A test begins
 * with the sentence it is for, and a wrong answer is printed under that sentence.
 */
public final class BoundaryTest {
    private static final int NONE = ProcessEquiv.NONE;
    private static final int LAST_CALL = 512;

    // Just outside, far outside, and such as come back inside when they are multiplied or shifted.
    private static final int[] NO_STATES = {-1, 8, 9, 15, -8, 31, 32, 39, -32, 256, 1 << 29,
        1431655766, -1431655765, Integer.MIN_VALUE, Integer.MAX_VALUE};
    private static final int[] NO_LABELS = {-1, 3, 4, 5, -3, 8, 24, 32, -32, 1 << 29, 1 << 30,
        Integer.MIN_VALUE, Integer.MAX_VALUE};

    private interface Call {
        int on(ProcessEquiv x);
    }

    private interface Maker {
        ProcessEquiv make();
    }

    // An empty machine, a full one, and two between: what is refused must be so on each of them.
    private static final List<Maker> MACHINES = List.of(
        BoundaryTest::empty, BoundaryTest::full, BoundaryTest::chain, BoundaryTest::mixed);

    private static String sentence = "";
    private static int checks = 0;
    private static int wrong = 0;

    private static void sentence(String words) {
        endSentence();
        sentence = words;
        checks = 0;
    }

    /** A sentence under which nothing was checked would seem to hold. */
    private static void endSentence() {
        if (!sentence.isEmpty() && checks == 0) {
            wrong++;
            System.out.println("[" + sentence + "] nothing was checked");
        }
    }

    private static void due(String call, int got, int want) {
        checks++;
        if (got != want) {
            wrong++;
            System.out.println("[" + sentence + "] " + call + " answered " + got + ", due is " + want);
        }
    }

    private static void due(String call, boolean got, boolean want) {
        due(call, bit(got), bit(want));
    }

    private static int bit(boolean b) {
        return b ? 1 : 0;
    }

    private static ProcessEquiv empty() {
        return new ProcessEquiv();
    }

    private static ProcessEquiv full() {
        ProcessEquiv x = new ProcessEquiv();
        for (int i = 0; i < 192; i++) {
            x.join(i / 8 % 8, i % 8, i / 64);
        }
        return x;
    }

    /** A machine from triples: from, to, label. */
    private static ProcessEquiv machine(int... triples) {
        ProcessEquiv x = new ProcessEquiv();
        for (int i = 0; i < triples.length; i += 3) {
            x.join(triples[i], triples[i + 1], triples[i + 2]);
        }
        return x;
    }

    /** 0 to 1, 1 to 2 and so on up to 7, all with the one label. */
    private static ProcessEquiv chainWith(int l) {
        ProcessEquiv x = new ProcessEquiv();
        for (int a = 0; a < 7; a++) {
            x.join(a, a + 1, l);
        }
        return x;
    }

    private static ProcessEquiv chain() {
        return chainWith(1);
    }

    private static ProcessEquiv mixed() {
        return machine(0, 0, 0, 0, 7, 2, 1, 0, 1, 2, 3, 0, 3, 2, 0, 3, 3, 2, 4, 5, 1, 5, 6, 0, 7, 7, 2, 7, 0, 0);
    }

    /** All that can be seen of an object, in 180 calls. */
    private static int[] picture(ProcessEquiv x) {
        int[] seen = new int[180];
        int n = 0;
        seen[n++] = x.steps();
        seen[n++] = x.groups();
        seen[n++] = x.rounds();
        seen[n++] = x.looseGroups();
        for (int a = 0; a < 8; a++) {
            for (int l = 0; l < 3; l++) {
                seen[n++] = x.after(a, l);
            }
            seen[n++] = x.group(a);
            seen[n++] = x.followers(a);
            seen[n++] = x.silently(a);
            for (int b = 0; b < 8; b++) {
                seen[n++] = x.toldAfter(a, b);
                seen[n++] = bit(x.looselyAlike(a, b));
            }
        }
        return seen;
    }

    private static void unchanged(String call, ProcessEquiv x, Maker maker) {
        due("the same to be seen after " + call, Arrays.equals(picture(x), picture(maker.make())), true);
    }

    /** The steps alone, which is what a call can change. */
    private static int[] stepsOf(ProcessEquiv x) {
        int[] seen = new int[25];
        for (int i = 0; i < 24; i++) {
            seen[i] = x.after(i / 3, i % 3);
        }
        seen[24] = x.steps();
        return seen;
    }

    /**
     * On each machine the calls all answer the code of refusal, and then nothing has changed. Each
     * is also made alone, as what one of them changes another might change back.
     */
    private static void refused(String call, int code, List<Call> calls) {
        for (Maker maker : MACHINES) {
            int[] steps = stepsOf(maker.make());
            ProcessEquiv x = maker.make();
            for (Call c : calls) {
                due(call, c.on(x), code);
                ProcessEquiv alone = maker.make();
                due(call + " alone", c.on(alone), code);
                due("the same steps after " + call, Arrays.equals(stepsOf(alone), steps), true);
            }
            unchanged(call, x, maker);
        }
    }

    private static void refused(String call, int code, Call c) {
        refused(call, code, List.of(c));
    }

    private interface StepCall {
        boolean on(ProcessEquiv x, int a, int b, int l);
    }

    private interface PairCall {
        int on(ProcessEquiv x, int a, int b);
    }

    private interface StateCall {
        int on(ProcessEquiv x, int a);
    }

    private static void refusesStatesFrom(String name, StepCall call) {
        for (int s : NO_STATES) {
            List<Call> calls = new ArrayList<>();
            for (int i = 0; i < 24; i++) {
                int b = i % 8;
                int l = i / 8;
                calls.add(x -> bit(call.on(x, s, b, l)));
            }
            refused(name + "(" + s + ", b, l)", 0, calls);
        }
    }

    private static void refusesStatesTo(String name, StepCall call) {
        for (int s : NO_STATES) {
            List<Call> calls = new ArrayList<>();
            for (int i = 0; i < 24; i++) {
                int a = i % 8;
                int l = i / 8;
                calls.add(x -> bit(call.on(x, a, s, l)));
            }
            refused(name + "(a, " + s + ", l)", 0, calls);
            refused(name + "(" + s + ", " + s + ", 1)", 0, x -> bit(call.on(x, s, s, 1)));
        }
    }

    private static void refusesLabels(String name, StepCall call) {
        for (int l : NO_LABELS) {
            List<Call> calls = new ArrayList<>();
            for (int i = 0; i < 64; i++) {
                int a = i % 8;
                int b = i / 8;
                calls.add(x -> bit(call.on(x, a, b, l)));
            }
            refused(name + "(a, b, " + l + ")", 0, calls);
            refused(name + "(-1, 8, " + l + ")", 0, x -> bit(call.on(x, -1, 8, l)));
        }
    }

    private static void refusesPairs(String name, int code, PairCall call) {
        for (int s : NO_STATES) {
            List<Call> calls = new ArrayList<>();
            for (int good = 0; good < 8; good++) {
                int a = good;
                calls.add(x -> call.on(x, a, s));
                calls.add(x -> call.on(x, s, a));
            }
            calls.add(x -> call.on(x, s, s));
            for (int other : NO_STATES) {
                calls.add(x -> call.on(x, s, other));
            }
            refused(name + " with " + s, code, calls);
        }
    }

    private static void refusesStates(String name, StateCall call) {
        for (int s : NO_STATES) {
            refused(name + "(" + s + ")", 0, x -> call.on(x, s));
        }
    }

    private static void newObject() {
        sentence("Promise 1: No steps.");
        due("steps()", empty().steps(), 0);
        ProcessEquiv cuts = empty();
        ProcessEquiv idles = empty();
        for (int i = 0; i < 192; i++) {
            due("after", empty().after(i / 8 % 8, i / 64), 0);
            due("cut", cuts.cut(i / 8 % 8, i % 8, i / 64), false);
            due("idle", idles.idle(i / 8 % 8, i % 8, i / 64), false);
        }
        ProcessEquiv other = full();
        due("steps() beside a full object", empty().steps(), 0);
        due("steps() of the full object", other.steps(), 192);
    }

    private static void join() {
        sentence("Promise 2: Puts a step from a to b with label l, and answers true: the least and the greatest");
        for (int a = 0; a < 8; a += 7) {
            for (int b = 0; b < 8; b += 7) {
                for (int l = 0; l < 3; l++) {
                    ProcessEquiv x = empty();
                    due("join(" + a + ", " + b + ", " + l + ")", x.join(a, b, l), true);
                    due("steps()", x.steps(), 1);
                    due("after(" + a + ", " + l + ")", x.after(a, l), 1 << b);
                }
            }
        }

        sentence("Promise 2: true (also when it is there)");
        ProcessEquiv x = empty();
        due("join(0, 7, 2)", x.join(0, 7, 2), true);
        due("join(0, 7, 2) again", x.join(0, 7, 2), true);
        due("steps()", x.steps(), 1);
        due("after(0, 2)", x.after(0, 2), 128);
        due("cut(0, 7, 2)", x.cut(0, 7, 2), true);
        due("after(0, 2) after one cut", x.after(0, 2), 0);
        ProcessEquiv all = full();
        for (int i = 0; i < 64; i++) {
            due("join on the full machine", all.join(i / 8, i % 8, i % 3), true);
        }
        unchanged("joins on the full machine", all, BoundaryTest::full);

        sentence("Promise 2: false when a .. is not 0 .. 7");
        refusesStatesFrom("join", ProcessEquiv::join);

        sentence("Promise 2: false when .. b is not 0 .. 7");
        refusesStatesTo("join", ProcessEquiv::join);

        sentence("Promise 2: false when .. l is not 0 .. 2");
        refusesLabels("join", ProcessEquiv::join);
    }

    private static void cut() {
        sentence("Promise 3: Takes the step away: the only one, and each of all steps");
        ProcessEquiv only = machine(7, 0, 2);
        due("cut(7, 0, 2)", only.cut(7, 0, 2), true);
        unchanged("the only step was cut", only, BoundaryTest::empty);
        ProcessEquiv all = full();
        for (int i = 0; i < 192; i++) {
            due("cut of one of all", all.cut(i / 8 % 8, i % 8, i / 64), true);
        }
        due("steps()", all.steps(), 0);
        for (int i = 0; i < 24; i++) {
            due("after", all.after(i / 3, i % 3), 0);
        }

        sentence("Promise 3: false when there is none: it never was, or is cut already");
        ProcessEquiv twice = machine(4, 5, 1, 4, 6, 1);
        due("cut(4, 5, 1)", twice.cut(4, 5, 1), true);
        due("cut(4, 5, 1) again", twice.cut(4, 5, 1), false);
        due("after(4, 1)", twice.after(4, 1), 64);
        ProcessEquiv x = mixed();
        int refusals = 0;
        for (int i = 0; i < 192; i++) {
            int a = i / 8 % 8;
            int b = i % 8;
            int l = i / 64;
            if ((mixed().after(a, l) >> b & 1) == 0) {
                due("cut(" + a + ", " + b + ", " + l + ")", x.cut(a, b, l), false);
                refusals++;
            }
        }
        due("cuts refused", refusals, 182);
        unchanged("refused cuts", x, BoundaryTest::mixed);

        sentence("Promise 3: false when there is none: a is not 0 .. 7");
        refusesStatesFrom("cut", ProcessEquiv::cut);

        sentence("Promise 3: false when there is none: b is not 0 .. 7");
        refusesStatesTo("cut", ProcessEquiv::cut);

        sentence("Promise 3: false when there is none: l is not 0 .. 2");
        refusesLabels("cut", ProcessEquiv::cut);
    }

    private static void steps() {
        sentence("Promise 4: The number of steps: no step at all");
        due("steps()", empty().steps(), 0);
        due("steps() when the only step is cut", cutAll(machine(3, 3, 0)).steps(), 0);

        sentence("Promise 4: The number of steps: all steps");
        due("steps()", full().steps(), 192);

        sentence("Promise 4: The number of steps: between the same states, with each label one");
        ProcessEquiv x = empty();
        for (int l = 0; l < 3; l++) {
            x.join(2, 5, l);
            due("steps()", x.steps(), l + 1);
        }

        sentence("Promise 4: The number of steps: a step to the same state is one step");
        due("steps()", machine(7, 7, 1).steps(), 1);
        due("steps() there and back", machine(6, 7, 1, 7, 6, 1).steps(), 2);
    }

    private static ProcessEquiv cutAll(ProcessEquiv x) {
        for (int i = 0; i < 192; i++) {
            x.cut(i / 8 % 8, i % 8, i / 64);
        }
        return x;
    }

    private static void after() {
        sentence("Promise 5: bit b for state b: no state, each alone, all");
        for (int i = 0; i < 24; i++) {
            int a = i / 3;
            int l = i % 3;
            due("after of no steps", empty().after(a, l), 0);
            due("after of all steps", full().after(a, l), 255);
            for (int b = 0; b < 8; b++) {
                due("after(" + a + ", " + l + ")", machine(a, b, l).after(a, l), 1 << b);
            }
        }

        sentence("Promise 5: steps with label l .. from a: not with another label, not from another state");
        for (int i = 0; i < 24; i++) {
            due("after", machine(4, 3, 1).after(i / 3, i % 3), i == 13 ? 8 : 0);
        }

        sentence("Promise 5: 0 when a is not 0 .. 7");
        for (int l = 0; l < 3; l++) {
            int label = l;
            refusesStates("after .. " + l + " ..", (x, s) -> x.after(s, label));
        }

        sentence("Promise 5: 0 when .. l is not 0 .. 2");
        for (int l : NO_LABELS) {
            for (int a = 0; a < 8; a++) {
                int state = a;
                refused("after(" + a + ", " + l + ")", 0, x -> x.after(state, l));
            }
            refused("after(8, " + l + ")", 0, x -> x.after(8, l));
        }
    }

    private static void alike() {
        sentence("Promise 6: Whether a and b are alike: a state with itself");
        for (Maker maker : MACHINES) {
            for (int a = 0; a < 8; a++) {
                due("alike(" + a + ", " + a + ")", maker.make().alike(a, a), true);
            }
        }

        sentence("Promise 6: Whether a and b are alike: no step at all, all steps");
        for (int i = 0; i < 64; i++) {
            due("alike with no steps", empty().alike(i / 8, i % 8), true);
            due("alike with all steps", full().alike(i / 8, i % 8), true);
        }

        sentence("Promise 6: Whether a and b are alike: no two of them");
        ProcessEquiv x = chain();
        for (int i = 0; i < 64; i++) {
            due("alike(" + i / 8 + ", " + i % 8 + ")", x.alike(i / 8, i % 8), i / 8 == i % 8);
        }

        sentence("Promise 6: false when one is not 0 .. 7");
        refusesPairs("alike", 0, (y, a, b) -> bit(y.alike(a, b)));
    }

    private static void group() {
        sentence("Promise 7: The states that are alike with a, a among them: a alone");
        for (int a = 0; a < 8; a++) {
            due("group(" + a + ")", chain().group(a), 1 << a);
            due("group of the one state with a step", machine(a, a, 2).group(a), 1 << a);
        }

        sentence("Promise 7: The states that are alike with a, a among them: all states");
        for (int a = 0; a < 8; a++) {
            due("group with no steps", empty().group(a), 255);
            due("group with all steps", full().group(a), 255);
        }

        sentence("Promise 7: 0 when a is not 0 .. 7");
        refusesStates("group", ProcessEquiv::group);
    }

    private static void groups() {
        sentence("Promise 8: The number of different groups: the least is 1, with no step and with all steps");
        due("groups() with no steps", empty().groups(), 1);
        due("groups() with all steps", full().groups(), 1);

        sentence("Promise 8: The number of different groups: the greatest is 8");
        due("groups() of the chain", chain().groups(), 8);

        sentence("Promise 8: The number of different groups: one state against all others");
        for (int a = 0; a < 8; a++) {
            due("groups() with one loop", machine(a, a, a % 3).groups(), 2);
            ProcessEquiv x = full();
            for (int b = 0; b < 8; b++) {
                x.cut(a, b, a % 3);
            }
            due("groups() with one state that lacks a label", x.groups(), 2);
        }
    }

    private static void toldAfter() {
        sentence("Promise 9: The least n: 1 is the least there is");
        for (int a = 0; a < 7; a++) {
            due("toldAfter(" + a + ", 7)", chain().toldAfter(a, 7), 1);
            due("toldAfter(7, " + a + ")", chain().toldAfter(7, a), 1);
        }

        sentence("Promise 9: The least n: 7 is the greatest that 8 states can need");
        due("toldAfter(0, 1)", chain().toldAfter(0, 1), 7);
        due("toldAfter(1, 0)", chain().toldAfter(1, 0), 7);

        sentence("Promise 9: NONE when they are alike");
        for (int i = 0; i < 64; i++) {
            due("toldAfter with no steps", empty().toldAfter(i / 8, i % 8), NONE);
            due("toldAfter with all steps", full().toldAfter(i / 8, i % 8), NONE);
        }
        ProcessEquiv x = machine(2, 3, 1);
        due("toldAfter(2, 3)", x.toldAfter(2, 3), 1);
        x.cut(2, 3, 1);
        due("toldAfter(2, 3) when the step is cut", x.toldAfter(2, 3), NONE);

        sentence("Promise 9: NONE when they are alike: a state with itself");
        for (Maker maker : MACHINES) {
            for (int a = 0; a < 8; a++) {
                due("toldAfter(" + a + ", " + a + ")", maker.make().toldAfter(a, a), NONE);
            }
        }

        sentence("Promise 9: NONE when .. one is not 0 .. 7");
        refusesPairs("toldAfter", -1, ProcessEquiv::toldAfter);

        sentence("The public face: NONE = -1");
        due("NONE", NONE, -1);
    }

    private static void rounds() {
        sentence("Promise 10: The least n: 0 when no two states are ever told apart");
        due("rounds() with no steps", empty().rounds(), 0);
        due("rounds() with all steps", full().rounds(), 0);
        ProcessEquiv ring = chain();
        ring.join(7, 0, 1);
        due("rounds() of a ring", ring.rounds(), 0);
        ProcessEquiv once = machine(0, 1, 1, 1, 2, 1);
        due("rounds() with two steps", once.rounds(), 2);
        due("rounds() when all are cut", cutAll(once).rounds(), 0);

        sentence("Promise 10: The least n: 1 when round 1 tells all");
        due("rounds() with one step", machine(0, 0, 0).rounds(), 1);
        due("rounds() with one step to another", machine(7, 0, 2).rounds(), 1);

        sentence("Promise 10: The least n: the greatest is 7");
        due("rounds() of the chain", chain().rounds(), 7);
        due("rounds() of the silent chain", chainWith(0).rounds(), 7);

        sentence("Promise 10: all states are told apart that ever are: a pair that is the last to be told");
        ProcessEquiv x = chain();
        x.cut(0, 1, 1);
        due("rounds() of the chain from 1", x.rounds(), 6);
        x.join(0, 2, 1);
        due("rounds() when 0 is alike with 1", x.rounds(), 6);
    }

    private static void looselyAlike() {
        sentence("Promise 11: Whether a and b are loosely alike: a state with itself");
        for (Maker maker : MACHINES) {
            for (int a = 0; a < 8; a++) {
                due("looselyAlike(" + a + ", " + a + ")", maker.make().looselyAlike(a, a), true);
            }
        }

        sentence("Promise 11: Whether a and b are loosely alike: no step at all, all steps");
        for (int i = 0; i < 64; i++) {
            due("looselyAlike with no steps", empty().looselyAlike(i / 8, i % 8), true);
            due("looselyAlike with all steps", full().looselyAlike(i / 8, i % 8), true);
        }

        sentence("Promise 11: Whether a and b are loosely alike: no two of them");
        ProcessEquiv x = chain();
        for (int i = 0; i < 64; i++) {
            due("looselyAlike", x.looselyAlike(i / 8, i % 8), i / 8 == i % 8);
        }

        sentence("Promise 11: false when one is not 0 .. 7");
        refusesPairs("looselyAlike", 0, (y, a, b) -> bit(y.looselyAlike(a, b)));
    }

    private static void looseGroups() {
        sentence("Promise 12: The number of different groups: the least is 1, with no step and with all steps");
        due("looseGroups() with no steps", empty().looseGroups(), 1);
        due("looseGroups() with all steps", full().looseGroups(), 1);

        sentence("Promise 12: The number of different groups: 1 with silent steps only");
        due("looseGroups() of the silent chain", chainWith(0).looseGroups(), 1);
        due("groups() of the silent chain", chainWith(0).groups(), 8);

        sentence("Promise 12: The number of different groups: the greatest is 8");
        due("looseGroups() of the chain", chain().looseGroups(), 8);
        due("looseGroups() of the chain with 2", chainWith(2).looseGroups(), 8);
    }

    private static void follows() {
        sentence("Promise 13: Whether b follows a: a state with itself");
        for (Maker maker : MACHINES) {
            for (int a = 0; a < 8; a++) {
                due("follows(" + a + ", " + a + ")", maker.make().follows(a, a), true);
            }
        }

        sentence("Promise 13: Whether b follows a: no step at all, all steps");
        for (int i = 0; i < 64; i++) {
            due("follows with no steps", empty().follows(i / 8, i % 8), true);
            due("follows with all steps", full().follows(i / 8, i % 8), true);
        }

        sentence("Promise 13: Whether b follows a: one of them without any step");
        ProcessEquiv one = machine(3, 3, 0);
        due("follows(3, 4)", one.follows(3, 4), true);
        due("follows(4, 3)", one.follows(4, 3), false);

        sentence("Promise 13: false when one is not 0 .. 7");
        refusesPairs("follows", 0, (x, b, a) -> bit(x.follows(b, a)));
    }

    private static void followers() {
        sentence("Promise 14: The states that follow a: a alone");
        for (int a = 0; a < 8; a++) {
            due("followers of the one state with a step", machine(a, a, 1).followers(a), 1 << a);
        }
        due("followers(0) of the chain", chain().followers(0), 1);

        sentence("Promise 14: The states that follow a: all states");
        for (int a = 0; a < 8; a++) {
            due("followers with no steps", empty().followers(a), 255);
            due("followers with all steps", full().followers(a), 255);
        }
        due("followers(7) of the chain", chain().followers(7), 255);

        sentence("Promise 14: 0 when a is not 0 .. 7");
        refusesStates("followers", ProcessEquiv::followers);
    }

    private static void silently() {
        sentence("Promise 15: a among them: also when no silent step leads from it");
        for (int a = 0; a < 8; a++) {
            due("silently with no steps", empty().silently(a), 1 << a);
            due("silently with label 1 only", chain().silently(a), 1 << a);
            due("silently with label 2 only", chainWith(2).silently(a), 1 << a);
        }

        sentence("Promise 15: a among them: with a silent step to itself");
        for (int a = 0; a < 8; a++) {
            due("silently with a loop", machine(a, a, 0).silently(a), 1 << a);
        }

        sentence("Promise 15: by silent steps only: 7 of them, the most that are needed");
        for (int a = 0; a < 8; a++) {
            due("silently(" + a + ") upwards", chainWith(0).silently(a), 255 & (255 << a));
        }
        ProcessEquiv down = machine(7, 6, 0, 6, 5, 0, 5, 4, 0, 4, 3, 0, 3, 2, 0, 2, 1, 0, 1, 0, 0);
        for (int a = 0; a < 8; a++) {
            due("silently(" + a + ") downwards", down.silently(a), (2 << a) - 1);
        }

        sentence("Promise 15: by silent steps only: all steps");
        for (int a = 0; a < 8; a++) {
            due("silently with all steps", full().silently(a), 255);
        }

        sentence("Promise 15: 0 when a is not 0 .. 7");
        refusesStates("silently", ProcessEquiv::silently);
    }

    private static void idle() {
        sentence("Promise 16: would leave the groups as they are: the only step");
        for (int i = 0; i < 192; i++) {
            int a = i / 8 % 8;
            due("idle", machine(a, i % 8, i / 64).idle(a, i % 8, i / 64), false);
        }

        sentence("Promise 16: would leave the groups as they are: one of all steps");
        ProcessEquiv all = full();
        for (int i = 0; i < 192; i++) {
            due("idle", all.idle(i / 8 % 8, i % 8, i / 64), true);
        }

        sentence("Promise 16: would leave the groups as they are: other groups, but as many");
        due("idle(1, 7, 1)", machine(0, 7, 1, 1, 7, 1).idle(1, 7, 1), false);

        sentence("Promise 16: would leave the groups as they are: a step to the same state");
        due("idle(2, 2, 1) beside a step to its like", machine(2, 2, 1, 2, 3, 1, 3, 2, 1).idle(2, 2, 1), true);
        due("idle(3, 3, 0) beside another label", machine(3, 3, 0, 3, 3, 2).idle(3, 3, 0), true);

        sentence("Promise 16: if it were taken away: it is not");
        for (Maker maker : List.<Maker>of(BoundaryTest::chain, BoundaryTest::mixed)) {
            ProcessEquiv x = maker.make();
            for (int i = 0; i < 192; i++) {
                x.idle(i / 8 % 8, i % 8, i / 64);
            }
            unchanged("idle of each step", x, maker);
        }
        ProcessEquiv asked = full();
        due("idle(7, 7, 2) of all steps", asked.idle(7, 7, 2), true);
        unchanged("idle of one of all steps", asked, BoundaryTest::full);

        sentence("Promise 16: false when there is no such step: it never was, or is cut");
        ProcessEquiv x = mixed();
        due("idle(0, 0, 1)", x.idle(0, 0, 1), false);
        due("idle(7, 0, 2)", x.idle(7, 0, 2), false);
        due("idle(6, 5, 0)", x.idle(6, 5, 0), false);
        unchanged("idle of no step", x, BoundaryTest::mixed);
        ProcessEquiv lacking = full();
        lacking.cut(4, 4, 0);
        due("idle(4, 4, 0) when it is cut", lacking.idle(4, 4, 0), false);
        due("steps()", lacking.steps(), 191);

        sentence("Promise 16: false when there is no such step: a is not 0 .. 7");
        refusesStatesFrom("idle", ProcessEquiv::idle);

        sentence("Promise 16: false when there is no such step: b is not 0 .. 7");
        refusesStatesTo("idle", ProcessEquiv::idle);

        sentence("Promise 16: false when there is no such step: l is not 0 .. 2");
        refusesLabels("idle", ProcessEquiv::idle);
    }

    private static void termsOfSteps() {
        sentence("Terms: There are states 0 .. 7 and labels 0 .. 2");
        ProcessEquiv x = empty();
        int good = 0;
        for (int a = -2; a < 10; a++) {
            for (int l = -2; l < 5; l++) {
                good += bit(x.join(a, 0, l)) + bit(x.join(0, a, l));
            }
        }
        due("good ones of the joins", good, 8 * 3 * 2);

        sentence("Terms: a STEP leads from a state to a state (perhaps the same)");
        for (int a = 0; a < 8; a++) {
            ProcessEquiv loop = machine(a, a, 1);
            due("after", loop.after(a, 1), 1 << a);
            due("idle of the loop", loop.idle(a, a, 1), false);
            due("cut of the loop", loop.cut(a, a, 1), true);
            due("steps()", loop.steps(), 0);
        }
        due("a loop alike with a ring of two", machine(0, 0, 2, 1, 2, 2, 2, 1, 2).alike(0, 1), true);
        due("a loop alike with a step that ends", machine(0, 0, 2, 1, 2, 2).alike(0, 1), false);
        due("toldAfter of these", machine(0, 0, 2, 1, 2, 2).toldAfter(0, 1), 2);
        due("a loop follows a step that ends", machine(0, 0, 2, 1, 2, 2).follows(0, 1), true);
        due("a step that ends follows a loop", machine(0, 0, 2, 1, 2, 2).follows(1, 0), false);

        sentence("Terms: Label 0 is SILENT: and no other");
        due("looselyAlike with a loop of 0", machine(0, 0, 0).looselyAlike(0, 1), true);
        due("looselyAlike with a loop of 1", machine(0, 0, 1).looselyAlike(0, 1), false);
        due("looselyAlike with a loop of 2", machine(0, 0, 2).looselyAlike(0, 1), false);
        due("silently by 0", machine(0, 1, 0).silently(0), 3);
        due("silently by 1", machine(0, 1, 1).silently(0), 1);
        due("silently by 2", machine(0, 1, 2).silently(0), 1);
    }

    private static void termsOfRounds() {
        sentence("Terms: after round 0 no two states are told apart");
        for (Maker maker : MACHINES) {
            ProcessEquiv x = maker.make();
            for (int i = 0; i < 64; i++) {
                due("toldAfter is 0", x.toldAfter(i / 8, i % 8) == 0, false);
            }
        }

        sentence("Terms: After round 1: a step from one where the other has none with that label");
        for (int l = 0; l < 3; l++) {
            due("toldAfter(0, 1)", machine(0, 0, l).toldAfter(0, 1), 1);
            due("toldAfter(1, 0)", machine(0, 0, l).toldAfter(1, 0), 1);
            int another = (l + 1) % 3;
            due("toldAfter by another label", machine(0, 7, l, 1, 7, another).toldAfter(0, 1), 1);
            due("toldAfter by one label more", machine(0, 7, l, 0, 7, another, 1, 7, l).toldAfter(0, 1), 1);
        }

        sentence("Terms: After round n + 1: what round n told, not yet what round n + 1 tells");
        for (int a = 0; a < 7; a++) {
            due("toldAfter upwards", chain().toldAfter(a, a + 1), 7 - a);
            ProcessEquiv down = machine(7, 6, 1, 6, 5, 1, 5, 4, 1, 4, 3, 1, 3, 2, 1, 2, 1, 1, 1, 0, 1);
            due("toldAfter downwards", down.toldAfter(a, a + 1), a + 1);
        }

        sentence("Terms: from one of them: whichever of the two it is");
        ProcessEquiv more = machine(0, 1, 1, 0, 7, 1, 2, 7, 1, 1, 1, 2);
        due("toldAfter(0, 2)", more.toldAfter(0, 2), 2);
        due("toldAfter(2, 0)", more.toldAfter(2, 0), 2);
        ProcessEquiv swapped = machine(2, 1, 1, 2, 7, 1, 0, 7, 1, 1, 1, 2);
        due("toldAfter(0, 2) swapped", swapped.toldAfter(0, 2), 2);
        due("toldAfter(2, 0) swapped", swapped.toldAfter(2, 0), 2);

        sentence("Terms: told apart from every state: one that is not is enough to answer");
        ProcessEquiv answered = machine(0, 1, 1, 2, 3, 1, 2, 1, 1, 0, 3, 1, 3, 3, 2);
        due("alike(0, 2)", answered.alike(0, 2), true);
        due("toldAfter(0, 2)", answered.toldAfter(0, 2), NONE);

        sentence("Terms: (What is told apart stays so.)");
        // 5 and 6 are told apart in round 1, 0 and 7 in the last round only
        ProcessEquiv x = machine(0, 1, 1, 1, 2, 1, 2, 3, 1, 3, 4, 1, 4, 5, 1, 7, 2, 1, 5, 5, 2);
        due("toldAfter(5, 6)", x.toldAfter(5, 6), 1);
        due("alike(5, 6)", x.alike(5, 6), false);
        due("toldAfter(0, 7)", x.toldAfter(0, 7), 5);
        due("toldAfter(1, 7)", x.toldAfter(1, 7), NONE);

        sentence("Terms: States that are never told apart are ALIKE: when no two ever are");
        for (Maker maker : List.<Maker>of(BoundaryTest::empty, BoundaryTest::full, BoundaryTest::ring)) {
            ProcessEquiv same = maker.make();
            for (int i = 0; i < 64; i++) {
                due("alike", same.alike(i / 8, i % 8), true);
                due("toldAfter", same.toldAfter(i / 8, i % 8), NONE);
            }
            due("groups()", same.groups(), 1);
            due("rounds()", same.rounds(), 0);
        }
    }

    private static ProcessEquiv ring() {
        ProcessEquiv x = chain();
        x.join(7, 0, 1);
        return x;
    }

    private static void termsOfLongSteps() {
        sentence("Terms: A LONG STEP: 0 silent steps before and behind");
        due("a step itself", machine(0, 7, 1).looselyAlike(0, 7), false);
        due("the same step", machine(0, 7, 1, 1, 7, 1).looselyAlike(0, 1), true);
        due("the same step to the same state", machine(0, 0, 2, 1, 1, 2).looselyAlike(0, 1), true);

        sentence("Terms: A LONG STEP: any number of silent steps before, 0 behind");
        // 6 of them lie before the step from 6 to 7
        ProcessEquiv before = chainWith(0);
        before.cut(6, 7, 0);
        before.join(6, 7, 2);
        for (int a = 0; a < 6; a++) {
            due("looselyAlike(" + a + ", 6)", before.looselyAlike(a, 6), true);
            due("looselyAlike(" + a + ", 7)", before.looselyAlike(a, 7), false);
        }
        due("looseGroups()", before.looseGroups(), 2);

        sentence("Terms: A LONG STEP: 0 silent steps before, any number behind");
        // 0 comes to 6 by 5 silent steps behind its own, 7 by a step of its own; 1 .. 5 can do what 6 cannot
        ProcessEquiv behind = machine(0, 1, 1, 1, 2, 0, 2, 3, 0, 3, 4, 0, 4, 5, 0, 5, 6, 0, 5, 6, 2, 7, 1, 1, 7, 6, 1);
        due("looselyAlike(0, 7)", behind.looselyAlike(0, 7), true);
        due("looselyAlike(1, 5)", behind.looselyAlike(1, 5), true);
        due("looselyAlike(5, 6)", behind.looselyAlike(5, 6), false);
        due("looseGroups()", behind.looseGroups(), 3);

        sentence("Terms: A LONG STEP: silent steps both before and behind");
        // 0 comes to 4 by one silent step, its own from 1 to 3, and one more
        ProcessEquiv both = machine(0, 1, 0, 1, 3, 2, 3, 4, 0, 3, 3, 1, 7, 3, 2, 7, 4, 2);
        due("looselyAlike(0, 7)", both.looselyAlike(0, 7), true);
        due("looselyAlike(3, 4)", both.looselyAlike(3, 4), false);

        sentence("Terms: A LONG STEP: one step with the label, not none and not two");
        due("one and none", machine(0, 1, 1, 1, 2, 0).looselyAlike(0, 1), false);
        due("one and two", machine(0, 1, 1, 1, 2, 1, 3, 4, 1).looselyAlike(0, 3), false);
        due("two in place of one", machine(0, 1, 1, 1, 2, 1, 3, 1, 1, 3, 2, 1).looselyAlike(0, 3), false);
        due("label 1 and label 2", machine(0, 1, 1, 2, 1, 2).looselyAlike(0, 2), false);

        sentence("Terms: a long step with label 0: by 0 silent steps too");
        due("a silent step answered by staying", machine(0, 1, 0).looselyAlike(0, 1), true);
        due("a silent step to itself", machine(0, 0, 0).looselyAlike(0, 1), true);
        due("a silent step to one like it", machine(0, 1, 0, 0, 7, 1, 1, 7, 1, 2, 7, 1).looselyAlike(0, 2), true);

        sentence("Terms: a long step with label 0: by any number of silent steps");
        // 6 gives up its loop by 1 silent step, 0 only by 7
        ProcessEquiv far = chainWith(0);
        far.join(6, 6, 1);
        due("looselyAlike(0, 6)", far.looselyAlike(0, 6), true);
        due("looselyAlike(0, 7)", far.looselyAlike(0, 7), false);
        due("looseGroups()", far.looseGroups(), 2);

        sentence("Terms: a long step with label 0: a silent ring");
        due("a ring and no step", machine(0, 1, 0, 1, 0, 0).looselyAlike(0, 7), true);
        due("a ring with one way out", machine(0, 1, 0, 1, 0, 0, 1, 5, 2).looselyAlike(0, 1), true);

        sentence("Terms: alike with long steps in place of steps: a silent step that gives something up");
        due("looselyAlike(0, 4)", machine(0, 1, 0, 1, 7, 2, 0, 7, 1, 4, 7, 1, 4, 7, 2).looselyAlike(0, 4), false);
        due("looselyAlike(0, 4) silent alone", machine(0, 1, 0, 0, 7, 1, 4, 7, 1).looselyAlike(0, 4), false);
    }

    private static void termsOfFollowing() {
        sentence("Terms: for every step from a: there is none");
        for (Maker maker : MACHINES) {
            ProcessEquiv x = maker.make();
            for (int a = 0; a < 8; a++) {
                if (x.after(a, 0) + x.after(a, 1) + x.after(a, 2) == 0) {
                    due("followers(" + a + ")", x.followers(a), 255);
                }
            }
        }

        sentence("Terms: there is a step from b with that label: b has none");
        for (int l = 0; l < 3; l++) {
            due("follows(1, 0)", machine(0, 7, l).follows(1, 0), false);
            due("follows by another label", machine(0, 7, l, 1, 7, (l + 1) % 3).follows(1, 0), false);
            due("follows by the same label", machine(0, 7, l, 1, 7, l).follows(1, 0), true);
        }

        sentence("Terms: there is a step from b with that label: a silent one too, and no long one");
        due("follows by no step", machine(0, 0, 0).follows(1, 0), false);
        due("follows by a long step", machine(0, 7, 1, 1, 2, 0, 2, 7, 1).follows(1, 0), false);

        sentence("Terms: the greatest relation: steps that lead to the same state, round and round");
        due("a loop follows a loop", machine(0, 0, 1, 1, 1, 1).follows(0, 1), true);
        due("a ring follows a loop", machine(0, 0, 1, 1, 2, 1, 2, 1, 1).follows(1, 0), true);
        for (int a = 0; a < 8; a++) {
            due("followers in a ring", ring().followers(a), 255);
        }

        sentence("Terms: d follows c: after as many steps as there can be before it fails");
        for (int a = 0; a < 8; a++) {
            due("followers(" + a + ") of the chain", chain().followers(a), (2 << a) - 1);
            ProcessEquiv down = machine(7, 6, 2, 6, 5, 2, 5, 4, 2, 4, 3, 2, 3, 2, 2, 2, 1, 2, 1, 0, 2);
            due("followers(" + a + ") downwards", down.followers(a), 255 & (255 << a));
        }
    }

    /** What answers false without being refused is a question, and changes nothing either. */
    private static void orderAndLimits() {
        sentence("Promise 17: a call that is refused .. changes nothing: one after another, each wrong in one way");
        for (Maker maker : MACHINES) {
            ProcessEquiv x = maker.make();
            for (int i = 0; i < 2; i++) {
                int s = i == 0 ? -1 : 8;
                int l = i == 0 ? -1 : 3;
                due("join from " + s, x.join(s, 0, 0), false);
                due("join to " + s, x.join(0, s, 0), false);
                due("join with " + l, x.join(0, 0, l), false);
                due("cut from " + s, x.cut(s, 0, 0), false);
                due("cut to " + s, x.cut(0, s, 0), false);
                due("cut with " + l, x.cut(0, 0, l), false);
                due("idle from " + s, x.idle(s, 0, 0), false);
                due("idle to " + s, x.idle(0, s, 0), false);
                due("idle with " + l, x.idle(0, 0, l), false);
                due("alike with " + s, x.alike(0, s), false);
                due("looselyAlike with " + s, x.looselyAlike(0, s), false);
                due("follows " + s, x.follows(0, s), false);
                due("toldAfter with " + s, x.toldAfter(0, s), NONE);
                due("after " + s, x.after(s, 0), 0);
                due("group of " + s, x.group(s), 0);
                due("followers of " + s, x.followers(s), 0);
                due("silently from " + s, x.silently(s), 0);
            }
            unchanged("all these", x, maker);
        }

        sentence("Promise 17: a call that is refused .. by false: cut and idle of no step, then join all the same");
        ProcessEquiv x = empty();
        due("cut(5, 6, 1)", x.cut(5, 6, 1), false);
        due("idle(5, 6, 1)", x.idle(5, 6, 1), false);
        due("steps()", x.steps(), 0);
        due("join(5, 6, 1)", x.join(5, 6, 1), true);
        due("steps() then", x.steps(), 1);
        due("cut(5, 6, 1) then", x.cut(5, 6, 1), true);
        due("cut(5, 6, 1) again", x.cut(5, 6, 1), false);
        unchanged("all these", x, BoundaryTest::empty);
    }

    private static final List<Call> QUESTIONS = List.of(
        x -> bit(x.join(0, 1, 1)), x -> bit(x.cut(7, 7, 2)), x -> x.steps(), x -> x.after(6, 1),
        x -> bit(x.alike(0, 1)), x -> x.group(7), x -> x.groups(), x -> x.toldAfter(0, 1),
        x -> x.rounds(), x -> bit(x.looselyAlike(0, 1)), x -> x.looseGroups(), x -> bit(x.follows(0, 1)),
        x -> x.followers(3), x -> x.silently(5), x -> bit(x.idle(6, 7, 1)));
    private static final int[] CHAIN_ANSWERS = {1, 0, 7, 128, 0, 128, 8, 7, 7, 0, 8, 1, 15, 32, 0};

    private static void calls() {
        sentence("What it is: at most 512 calls: one method over and over to the last call");
        for (int q = 0; q < CHAIN_ANSWERS.length; q++) {
            ProcessEquiv x = chain();
            for (int call = 8; call <= LAST_CALL; call++) {
                due("question " + q + " as call " + call, QUESTIONS.get(q).on(x), CHAIN_ANSWERS[q]);
            }
        }

        sentence("What it is: at most 512 calls: each method as the last call after all the others");
        for (int q = 0; q < CHAIN_ANSWERS.length; q++) {
            ProcessEquiv x = chain();
            for (int call = 8; call < LAST_CALL; call++) {
                int other = call % CHAIN_ANSWERS.length;
                due("question " + other + " as call " + call, QUESTIONS.get(other).on(x), CHAIN_ANSWERS[other]);
            }
            due("question " + q + " as the last call", QUESTIONS.get(q).on(x), CHAIN_ANSWERS[q]);
        }

        sentence("What it is: at most 512 calls: joins and cuts only, to the last call");
        ProcessEquiv x = empty();
        for (int call = 1; call < LAST_CALL - 1; call += 2) {
            due("join as call " + call, x.join(call % 8, 3, 1), true);
            due("cut as call " + (call + 1), x.cut(call % 8, 3, 1), true);
        }
        due("join as call 511", x.join(7, 7, 2), true);
        due("after as call 512", x.after(7, 2), 128);

        sentence("What it is: at most 512 calls: all steps put, taken away and put again before the last");
        ProcessEquiv again = cutAll(full());
        for (int i = 0; i < 127; i++) {
            due("join as call " + (385 + i), again.join(i / 8 % 8, i % 8, i / 64), true);
        }
        due("steps() as call 512", again.steps(), 127);

        sentence("What it is: at most 512 calls: refused calls count for nothing else");
        ProcessEquiv refusing = chain();
        for (int call = 8; call < LAST_CALL; call++) {
            due("join refused as call " + call, refusing.join(call, call % 8, 1), false);
        }
        due("rounds() as call 512", refusing.rounds(), 7);
    }

    public static void main(String[] args) {
        newObject();
        join();
        cut();
        steps();
        after();
        alike();
        group();
        groups();
        toldAfter();
        rounds();
        looselyAlike();
        looseGroups();
        follows();
        followers();
        silently();
        idle();
        termsOfSteps();
        termsOfRounds();
        termsOfLongSteps();
        termsOfFollowing();
        orderAndLimits();
        calls();
        endSentence();
        System.out.println(wrong == 0 ? "all answers are as due" : wrong + " answers are not as due");
        if (wrong != 0) {
            System.exit(1);
        }
    }
}
