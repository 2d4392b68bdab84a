/** For each promise: ordinary inputs, the edges the document names, and wrong inputs. */
public final class PromiseTest {
    private static final int[] NO_STATES = {-1, 8, 9, 32, -8, Integer.MIN_VALUE, Integer.MAX_VALUE};
    private static final int[] NO_LABELS = {-1, 3, 4, -3, Integer.MIN_VALUE, Integer.MAX_VALUE};

    private static int wrong = 0;

    private static void due(String call, int got, int want) {
        if (got != want) {
            wrong++;
            System.out.println(call + " answered " + got + ", due is " + want);
        }
    }

    private static void due(String call, boolean got, boolean want) {
        due(call, got ? 1 : 0, want ? 1 : 0);
    }

    /** A machine from triples: from, to, label. */
    private static ProcessEquiv machine(int... triples) {
        ProcessEquiv x = new ProcessEquiv();
        for (int i = 0; i < triples.length; i += 3) {
            due("machine join", x.join(triples[i], triples[i + 1], triples[i + 2]), true);
        }
        return x;
    }

    private static ProcessEquiv chain() {
        return machine(0, 1, 1, 1, 2, 1, 2, 3, 1, 3, 4, 1, 4, 5, 1, 5, 6, 1, 6, 7, 1);
    }

    private static void promise1NewObject() {
        ProcessEquiv x = new ProcessEquiv();
        due("1 steps", x.steps(), 0);
        for (int a = 0; a < 8; a++) {
            for (int l = 0; l < 3; l++) {
                due("1 after", x.after(a, l), 0);
            }
            due("1 group", x.group(a), 255);
            due("1 followers", x.followers(a), 255);
            due("1 silently", x.silently(a), 1 << a);
        }
        due("1 NONE", ProcessEquiv.NONE, -1);
        ProcessEquiv other = new ProcessEquiv();
        other.join(0, 1, 2);
        due("1 another object's step", x.steps(), 0);
    }

    private static void promise2Join() {
        ProcessEquiv x = new ProcessEquiv();
        due("2 join", x.join(0, 7, 2), true);
        due("2 after", x.after(0, 2), 128);
        due("2 join again", x.join(0, 7, 2), true);
        due("2 steps after joining again", x.steps(), 1);
        due("2 after after joining again", x.after(0, 2), 128);
        due("2 join with another label", x.join(0, 7, 0), true);
        due("2 join to the same state", x.join(7, 7, 1), true);
        due("2 join back", x.join(7, 0, 2), true);
        due("2 steps", x.steps(), 4);
        due("2 after(7, 1)", x.after(7, 1), 128);
        for (int s : NO_STATES) {
            due("2 join from no state " + s, x.join(s, 0, 0), false);
            due("2 join to no state " + s, x.join(0, s, 0), false);
        }
        for (int l : NO_LABELS) {
            due("2 join with no label " + l, x.join(0, 0, l), false);
        }
        due("2 steps after refused joins", x.steps(), 4);
    }

    private static void promise3Cut() {
        ProcessEquiv x = machine(1, 2, 1, 1, 3, 1, 1, 2, 2, 2, 1, 1);
        due("3 cut of no step", x.cut(1, 2, 0), false);
        due("3 cut", x.cut(1, 2, 1), true);
        due("3 after(1, 1)", x.after(1, 1), 8);
        due("3 after(1, 2)", x.after(1, 2), 4);
        due("3 after(2, 1)", x.after(2, 1), 2);
        due("3 cut again", x.cut(1, 2, 1), false);
        due("3 steps", x.steps(), 3);
        for (int s : NO_STATES) {
            due("3 cut from no state " + s, x.cut(s, 1, 1), false);
            due("3 cut to no state " + s, x.cut(1, s, 1), false);
        }
        for (int l : NO_LABELS) {
            due("3 cut with no label " + l, x.cut(1, 3, l), false);
        }
        due("3 steps after refused cuts", x.steps(), 3);
        x.join(1, 3, 1);
        x.join(1, 3, 1);
        due("3 cut of a step joined twice", x.cut(1, 3, 1), true);
        due("3 that step is gone", x.after(1, 1), 0);
        due("3 join after cut", x.join(1, 3, 1), true);
        due("3 the step is back", x.after(1, 1), 8);
    }

    private static void promise4Steps() {
        ProcessEquiv x = new ProcessEquiv();
        int count = 0;
        for (int l = 0; l < 3; l++) {
            for (int a = 0; a < 8; a++) {
                for (int b = 0; b < 8; b++) {
                    x.join(a, b, l);
                    count++;
                    due("4 steps", x.steps(), count);
                }
            }
        }
        due("4 all steps", x.steps(), 192);
        x.cut(7, 7, 2);
        due("4 steps after cut", x.steps(), 191);
    }

    private static void promise5After() {
        ProcessEquiv x = machine(3, 0, 1, 3, 7, 1, 3, 3, 1, 3, 4, 2);
        due("5 after(3, 1)", x.after(3, 1), 1 + 8 + 128);
        due("5 after(3, 2)", x.after(3, 2), 16);
        due("5 after(3, 0)", x.after(3, 0), 0);
        due("5 after(4, 2)", x.after(4, 2), 0);
        x.join(2, 0, 0);
        x.join(2, 1, 2);
        x.join(4, 5, 0);
        for (int s : NO_STATES) {
            for (int l = 0; l < 3; l++) {
                due("5 after no state " + s, x.after(s, l), 0);
            }
        }
        for (int l : NO_LABELS) {
            due("5 after no label " + l, x.after(3, l), 0);
        }
    }

    /** 0 chooses after its first step, 3 and 5 choose by it: the same traces, yet not alike. */
    private static ProcessEquiv choices() {
        return machine(0, 1, 1, 1, 2, 1, 1, 2, 2, 3, 4, 1, 3, 5, 1, 4, 2, 1, 5, 2, 2);
    }

    private static void promise6Alike() {
        ProcessEquiv x = choices();
        due("6 alike(0, 3)", x.alike(0, 3), false);
        due("6 alike(3, 0)", x.alike(3, 0), false);
        due("6 alike(2, 6)", x.alike(2, 6), true);
        due("6 alike(6, 7)", x.alike(6, 7), true);
        for (int a = 0; a < 8; a++) {
            due("6 alike with itself", x.alike(a, a), true);
        }
        ProcessEquiv loops = machine(0, 1, 1, 1, 0, 1, 2, 2, 1);
        due("6 a loop of two and a loop of one", loops.alike(0, 2), true);
        due("6 a loop and no step", loops.alike(0, 3), false);
        ProcessEquiv labels = machine(0, 7, 0, 1, 7, 1, 2, 7, 2, 3, 7, 2);
        due("6 silent counts as a label", labels.alike(0, 7), false);
        due("6 labels 0 and 1", labels.alike(0, 1), false);
        due("6 labels 1 and 2", labels.alike(1, 2), false);
        due("6 labels 2 and 2", labels.alike(2, 3), true);
        for (int s : NO_STATES) {
            due("6 alike with no state " + s, x.alike(0, s), false);
            due("6 no state alike " + s, x.alike(s, 0), false);
            due("6 no state alike with itself " + s, x.alike(s, s), false);
        }
    }

    private static void promise7Group() {
        ProcessEquiv x = choices();
        due("7 group(0)", x.group(0), 1);
        due("7 group(2)", x.group(2), 4 + 64 + 128);
        due("7 group(7)", x.group(7), 4 + 64 + 128);
        due("7 group(3)", x.group(3), 8);
        x.cut(1, 2, 2);
        x.cut(3, 5, 1);
        due("7 group(0) after cuts", x.group(0), 1 + 8);
        due("7 group(4) after cuts", x.group(4), 2 + 16);
        for (int s : NO_STATES) {
            due("7 group of no state " + s, x.group(s), 0);
        }
    }

    private static void promise8Groups() {
        due("8 groups of none", new ProcessEquiv().groups(), 1);
        due("8 groups of choices", choices().groups(), 6);
        due("8 groups of the chain", chain().groups(), 8);
        ProcessEquiv x = chain();
        x.join(7, 0, 1);
        due("8 groups of the ring", x.groups(), 1);
        due("8 a silent loop", machine(5, 5, 0).groups(), 2);
    }

    private static void promise9ToldAfter() {
        ProcessEquiv x = chain();
        for (int a = 0; a < 8; a++) {
            for (int b = 0; b < 8; b++) {
                int want = a == b ? ProcessEquiv.NONE : 8 - Math.max(a, b);
                due("9 toldAfter(" + a + ", " + b + ")", x.toldAfter(a, b), want);
            }
        }
        ProcessEquiv y = choices();
        due("9 toldAfter(0, 3)", y.toldAfter(0, 3), 2);
        due("9 toldAfter(3, 0)", y.toldAfter(3, 0), 2);
        due("9 toldAfter(4, 5)", y.toldAfter(4, 5), 1);
        due("9 toldAfter of alike ones", y.toldAfter(2, 7), ProcessEquiv.NONE);
        y.cut(1, 2, 2);
        y.cut(3, 5, 1);
        due("9 toldAfter once told, alike now", y.toldAfter(0, 3), ProcessEquiv.NONE);
        for (int s : NO_STATES) {
            due("9 toldAfter with no state " + s, x.toldAfter(7, s), ProcessEquiv.NONE);
            due("9 toldAfter of no state " + s, x.toldAfter(s, 7), ProcessEquiv.NONE);
        }
    }

    private static void promise10Rounds() {
        due("10 rounds of none", new ProcessEquiv().rounds(), 0);
        due("10 rounds of one step", machine(0, 1, 2).rounds(), 1);
        due("10 rounds of choices", choices().rounds(), 2);
        ProcessEquiv x = chain();
        due("10 rounds of the chain", x.rounds(), 7);
        x.cut(0, 1, 1);
        due("10 rounds of a shorter chain", x.rounds(), 6);
        x.join(0, 1, 1);
        x.join(7, 0, 1);
        due("10 rounds of the ring", x.rounds(), 0);
    }

    private static void promise11LooselyAlike() {
        ProcessEquiv before = machine(0, 1, 0, 1, 2, 0, 2, 7, 1, 3, 7, 1);
        due("11 silent steps before", before.looselyAlike(0, 3), true);
        due("11 but not alike", before.alike(0, 3), false);
        ProcessEquiv behind = machine(0, 1, 1, 1, 2, 0, 2, 7, 0, 3, 7, 1);
        due("11 silent steps behind", behind.looselyAlike(0, 3), true);
        due("11 behind is no step", behind.looselyAlike(1, 7), true);
        // 0 comes to 2 by the silent step behind its own, 3 by a step of its own
        ProcessEquiv further = machine(0, 1, 1, 1, 2, 0, 1, 7, 2, 2, 7, 1, 3, 1, 1, 3, 2, 1);
        due("11 a silent step behind that matters", further.looselyAlike(0, 3), true);
        due("11 what lies before and behind it", further.looselyAlike(1, 2), false);
        due("11 one label for another", machine(0, 1, 1, 2, 3, 2).looselyAlike(0, 2), false);
        due("11 two steps are not one", machine(0, 1, 1, 1, 2, 1, 3, 4, 1).looselyAlike(0, 3), false);
        // 0 may silently give up its step with label 1, 4 may not
        ProcessEquiv giveUp = machine(0, 1, 0, 1, 7, 2, 0, 7, 1, 4, 7, 1, 4, 7, 2);
        due("11 a silent choice", giveUp.looselyAlike(0, 4), false);
        due("11 the other way", giveUp.looselyAlike(4, 0), false);
        due("11 a silent ring", machine(0, 1, 0, 1, 2, 0, 2, 0, 0).looselyAlike(1, 7), true);
        due("11 in a silent ring", machine(0, 1, 0, 1, 0, 0, 1, 5, 2).looselyAlike(0, 1), true);
        for (int s : NO_STATES) {
            due("11 with no state " + s, before.looselyAlike(0, s), false);
            due("11 of no state " + s, before.looselyAlike(s, 0), false);
            due("11 of no state with itself " + s, before.looselyAlike(s, s), false);
        }
    }

    private static void promise12LooseGroups() {
        due("12 of none", new ProcessEquiv().looseGroups(), 1);
        due("12 of silent steps only", machine(0, 1, 0, 1, 2, 0, 5, 5, 0).looseGroups(), 1);
        due("12 of the chain", chain().looseGroups(), 8);
        due("12 of the half silent chain",
            machine(0, 1, 0, 1, 2, 1, 2, 3, 0, 3, 4, 1, 4, 5, 0, 5, 6, 1, 6, 7, 0).looseGroups(), 4);
        // 0 and 4 differ by what a silent step gives up
        due("12 of a silent choice",
            machine(0, 1, 0, 1, 7, 2, 0, 7, 1, 4, 7, 1, 4, 7, 2).looseGroups(), 4);
    }

    private static void promise13Follows() {
        ProcessEquiv x = choices();
        due("13 follows(0, 3)", x.follows(0, 3), true);
        due("13 follows(3, 0)", x.follows(3, 0), false);
        due("13 follows(1, 4)", x.follows(1, 4), true);
        due("13 follows(4, 1)", x.follows(4, 1), false);
        due("13 follows(4, 5)", x.follows(4, 5), false);
        for (int a = 0; a < 8; a++) {
            due("13 follows itself", x.follows(a, a), true);
            due("13 any follows one without steps", x.follows(a, 7), true);
        }
        ProcessEquiv silent = machine(0, 1, 0, 2, 2, 1, 3, 4, 1);
        due("13 a silent step must be followed", silent.follows(7, 0), false);
        due("13 a loop follows one step", silent.follows(2, 3), true);
        due("13 one step does not follow a loop", silent.follows(3, 2), false);
        // each follows the other, yet they are not alike
        ProcessEquiv both = machine(0, 1, 1, 1, 2, 2, 3, 4, 1, 4, 5, 2, 3, 6, 1);
        due("13 both ways, one", both.follows(0, 3), true);
        due("13 both ways, the other", both.follows(3, 0), true);
        due("13 both ways, alike", both.alike(0, 3), false);
        for (int s : NO_STATES) {
            due("13 no state follows " + s, x.follows(s, 7), false);
            due("13 follows no state " + s, x.follows(7, s), false);
            due("13 no state follows itself " + s, x.follows(s, s), false);
        }
    }

    private static void promise14Followers() {
        ProcessEquiv x = chain();
        for (int a = 0; a < 8; a++) {
            due("14 followers(" + a + ")", x.followers(a), (2 << a) - 1);
        }
        ProcessEquiv y = choices();
        due("14 followers(3)", y.followers(3), 1 + 8);
        due("14 followers(0)", y.followers(0), 1);
        due("14 followers(4)", y.followers(4), 1 + 2 + 8 + 16);
        due("14 followers(5)", y.followers(5), 2 + 32);
        for (int s : NO_STATES) {
            due("14 followers of no state " + s, x.followers(s), 0);
        }
    }

    private static void promise15Silently() {
        ProcessEquiv x = machine(7, 6, 0, 6, 5, 0, 5, 4, 0, 4, 3, 0, 3, 2, 0, 2, 1, 0, 1, 0, 0);
        for (int a = 0; a < 8; a++) {
            due("15 silently(" + a + ")", x.silently(a), (2 << a) - 1);
        }
        x.join(0, 7, 0);
        due("15 silently around a ring", x.silently(3), 255);
        ProcessEquiv up = machine(0, 1, 0, 1, 2, 0, 2, 3, 0, 3, 4, 0, 4, 5, 0, 5, 6, 0, 6, 7, 0);
        due("15 silently upwards", up.silently(0), 255);
        due("15 silently from 5", up.silently(5), 32 + 64 + 128);
        up.cut(3, 4, 0);
        up.join(3, 4, 1);
        up.join(3, 4, 2);
        due("15 other labels do not count", up.silently(1), 2 + 4 + 8);
        for (int s : NO_STATES) {
            due("15 silently from no state " + s, x.silently(s), 0);
        }
    }

    private static void promise16Idle() {
        ProcessEquiv x = chain();
        due("16 the first step, which tells 0 from 7", x.idle(0, 1, 1), false);
        due("16 the last step", x.idle(6, 7, 1), false);
        due("16 steps after idle", x.steps(), 7);
        due("16 after after idle", x.after(6, 1), 128);
        due("16 groups after idle", x.groups(), 8);
        due("16 rounds after idle", x.rounds(), 7);
        x.join(0, 2, 1);
        due("16 a way past 1, whose loss leaves the chain", x.idle(0, 2, 1), true);
        due("16 the way to 1, whose loss makes 0 and 1 alike", x.idle(0, 1, 1), false);
        due("16 both are still there", x.after(0, 1), 2 + 4);
        ProcessEquiv moved = machine(0, 7, 1, 1, 7, 1);
        due("16 the groups change, their number does not", moved.idle(1, 7, 1), false);
        ProcessEquiv twin = machine(0, 6, 1, 0, 7, 1);
        due("16 a second step to an alike state", twin.idle(0, 6, 1), true);
        due("16 a step beside one with another label", machine(0, 7, 1, 0, 7, 2).idle(0, 7, 2), true);
        due("16 the only step", machine(0, 7, 0).idle(0, 7, 0), false);
        due("16 no such step", x.idle(7, 7, 1), false);
        due("16 no such step with another label", x.idle(0, 1, 2), false);
        due("16 nothing is joined by that", x.steps(), 8);
        for (int s : NO_STATES) {
            due("16 from no state " + s, x.idle(s, 1, 1), false);
            due("16 to no state " + s, x.idle(0, s, 1), false);
        }
        for (int l : NO_LABELS) {
            due("16 with no label " + l, x.idle(0, 1, l), false);
        }
    }

    private static void refuse(ProcessEquiv x) {
        for (int s : NO_STATES) {
            x.join(s, 1, 1);
            x.join(1, s, 1);
            x.cut(s, 1, 1);
            x.cut(1, s, 1);
            x.idle(s, 1, 1);
            x.idle(1, s, 1);
            x.alike(s, 0);
            x.looselyAlike(0, s);
            x.toldAfter(s, 0);
            x.follows(0, s);
        }
        for (int l : NO_LABELS) {
            x.join(1, 1, l);
            x.cut(1, 2, l);
            x.idle(1, 2, l);
        }
        x.cut(7, 0, 1);
        x.idle(7, 0, 1);
        x.idle(0, 1, 1);
    }

    private static void promise17RefusedChangesNothing() {
        ProcessEquiv x = chain();
        refuse(x);
        due("17 steps", x.steps(), 7);
        for (int a = 0; a < 8; a++) {
            due("17 after with label 0", x.after(a, 0), 0);
            due("17 after with label 1", x.after(a, 1), a == 7 ? 0 : 2 << a);
            due("17 after with label 2", x.after(a, 2), 0);
            due("17 group", x.group(a), 1 << a);
            due("17 followers", x.followers(a), (2 << a) - 1);
            due("17 silently", x.silently(a), 1 << a);
        }
        due("17 rounds", x.rounds(), 7);
        due("17 looseGroups", x.looseGroups(), 8);
    }

    /** The document binds an object for 512 calls, so the last of them must be as good as the first. */
    private static void lastCall() {
        ProcessEquiv x = chain();
        for (int call = 8; call < 512; call++) {
            due("call " + call, x.groups(), 8);
        }
        due("call 512", x.toldAfter(0, 1), 7);
    }

    /** Line by line the example of README.md. */
    private static void readmeExample() {
        ProcessEquiv x = new ProcessEquiv();
        due("README join(0, 1, 1)", x.join(0, 1, 1), true);
        due("README join(2, 3, 0)", x.join(2, 3, 0), true);
        due("README join(3, 1, 1)", x.join(3, 1, 1), true);
        due("README steps()", x.steps(), 3);
        due("README alike(0, 3)", x.alike(0, 3), true);
        due("README alike(0, 2)", x.alike(0, 2), false);
        due("README group(0)", x.group(0), 9);
        due("README toldAfter(0, 2)", x.toldAfter(0, 2), 1);
        due("README looselyAlike(0, 2)", x.looselyAlike(0, 2), true);
        due("README silently(2)", x.silently(2), 12);
        due("README follows(0, 1)", x.follows(0, 1), true);
        due("README idle(2, 3, 0)", x.idle(2, 3, 0), false);
        x.cut(2, 3, 0);
        due("README without that step", x.alike(2, 1), true);
    }

    public static void main(String[] args) {
        promise1NewObject();
        promise2Join();
        promise3Cut();
        promise4Steps();
        promise5After();
        promise6Alike();
        promise7Group();
        promise8Groups();
        promise9ToldAfter();
        promise10Rounds();
        promise11LooselyAlike();
        promise12LooseGroups();
        promise13Follows();
        promise14Followers();
        promise15Silently();
        promise16Idle();
        promise17RefusedChangesNothing();
        lastCall();
        readmeExample();
        System.out.println(wrong == 0 ? "all answers are as due" : wrong + " answers are not as due");
        if (wrong != 0) {
            System.exit(1);
        }
    }
}
