/** Promises 6 to 13: a test for each sentence that names a boundary case. */
public final class RunSentencesTest extends TestBase {
    /** Instructions that trap on the registers of endAfter, by op, regs and n. */
    private static final int[][] TRAPS = {{DIV, regs(3, 3, 0), 0}, {LOAD, regs(3, 1, 0), 0}, {STORE, regs(3, 1, 0), 0}};

    /** A run that counts down, finishes exactly count instructions (2 or more), and then meets the given one. */
    private static ReorderCore endAfter(int count, int op, int regs, int n) {
        int fillers = (count + 1) % 3;
        ReorderCore x = new ReorderCore();
        setRegisters(x, (count + 1 - fillers) / 3, -1, 0, 5);
        emitTimes(x, fillers, SET, regs(2, 0, 0), 8);
        x.emit(ADD, regs(0, 0, 1), 0);
        x.emit(ZERO, regs(0, 0, 0), fillers + 3);
        x.emit(JUMP, 0, fillers);
        x.emit(op, regs, n);
        x.start(0);
        return x;
    }

    private static int endPosition(int count) {
        return (count + 1) % 3 + 3;
    }

    private static void startForgetsAnyOther() {
        for (int state : STATES) {
            ReorderCore x = inState(state);
            int sum = x.register(0);
            x.start(-1);
            dueRun("from state " + state, x, RUNNING, 0, 0);
            due("from state " + state, x.finish(1), 1);
            dueRun("from state " + state, x, RUNNING, 1, 1);
            due("from state " + state, x.register(0), sum + 2);
        }
        ReorderCore x = inState(RUNNING);
        x.start(0);
        x.start(0);
        dueRun("twice", x, RUNNING, 0, 0);
        due("twice", x.finish(200), 2);
    }

    /** What stood half done in the forgotten run must not be taken up in the new one. */
    private static void startForgetsWhatWasHalfDone() {
        for (int at = 0; at <= 6; at++) {
            ReorderCore x = new ReorderCore();
            setRegisters(x, 1, 3, 0, 0);
            x.emit(MUL, regs(0, 0, 1), 0);
            x.emit(ADD, regs(2, 2, 0), 0);
            x.emit(STORE, regs(2, 3, 0), 0);
            x.emit(LOAD, regs(0, 3, 0), 0);
            x.emit(ZERO, regs(3, 0, 0), 0);
            x.start(0);
            x.finish(at);
            int r0 = x.register(0);
            int r2 = x.register(2);
            x.start(-1);
            due("after " + at, x.finish(4), 4);
            dueRegisters("after " + at, x, r2 + 3 * r0, 3, r2 + 3 * r0, 0);
            due("after " + at, x.memory(0), r2 + 3 * r0);
        }
    }

    private static void startWithEmptyProgram() {
        ReorderCore x = new ReorderCore();
        x.start(0);
        dueRun("new", x, RUNNING, 0, 0);
        due("finish(0)", x.finish(0), 0);
        dueRun("finish(0)", x, RUNNING, 0, 0);
        due("finish(1)", x.finish(1), 0);
        dueRun("finish(1)", x, TRAPPED, 0, 0);
        x.start(-1);
        dueRun("again", x, RUNNING, 0, 0);
        x.clear();
        x.start(MAX);
        dueRun("cleared", x, RUNNING, 0, 0);
    }

    /** A ZERO at position p, each way, under each single bit of the guesses and its opposite. */
    private static void guessBitOfEachPosition() {
        for (int p = 0; p < 16; p++) {
            for (int bit = 0; bit < 32; bit++) {
                dueGuessUnseen(p, 1 << bit);
                dueGuessUnseen(p, ~(1 << bit));
            }
        }
    }

    /** The ZERO stands behind a MUL that keeps it waiting, so that the guess is followed for a while. */
    private static ReorderCore guessing(int p, int guesses, int value) {
        ReorderCore x = new ReorderCore();
        setRegisters(x, value, 1, 0, 0);
        emitTimes(x, p - 1, ADD, regs(2, 2, 1), 0);
        if (p > 0) {
            x.emit(MUL, regs(0, 0, 1), 0);
        }
        x.emit(ZERO, 0, 0);
        emitTimes(x, 15 - p, ADD, regs(3, 3, 1), 0);
        x.start(guesses);
        return x;
    }

    private static void dueGuessUnseen(int p, int guesses) {
        int adds = p > 0 ? p - 1 : 0;
        String what = "ZERO at " + p + ", guesses " + guesses;
        ReorderCore taken = guessing(p, guesses, 0);
        for (int round = 1; round <= 2; round++) {
            due(what + ", taken", taken.finish(p + 1), p + 1);
            dueRun(what + ", taken", taken, RUNNING, 0, round * (p + 1));
            dueRegisters(what + ", taken", taken, 0, 1, round * adds, 0);
        }
        ReorderCore passed = guessing(p, guesses, 1);
        due(what + ", passed", passed.finish(p + 1), p + 1);
        dueRun(what + ", passed", passed, RUNNING, p + 1, p + 1);
        dueRegisters(what + ", passed", passed, 1, 1, adds, 0);
        due(what + ", to the end", passed.finish(200), 15 - p);
        dueRun(what + ", to the end", passed, TRAPPED, 16, 16);
        dueRegisters(what + ", to the end", passed, 1, 1, adds, 15 - p);
    }

    private static ReorderCore twisted(int guesses) {
        ReorderCore x = new ReorderCore();
        setRegisters(x, 9, -1, 0, 2);
        x.emit(ADD, regs(0, 0, 1), 0);
        x.emit(ZERO, regs(0, 0, 0), 13);
        x.emit(DIV, regs(2, 0, 3), 0);
        x.emit(ZERO, regs(2, 0, 0), 8);
        x.emit(STORE, regs(0, 2, 0), 0);
        x.emit(LOAD, regs(3, 2, 0), 0);
        x.emit(ZERO, regs(1, 0, 0), -1);
        x.emit(JUMP, 0, 0);
        x.emit(STORE, regs(3, 0, 0), 0);
        x.emit(ZERO, regs(2, 0, 0), 11);
        x.emit(HALT, 0, 0);
        x.emit(MUL, regs(3, 3, 1), 0);
        x.emit(JUMP, 0, 0);
        x.emit(LOAD, regs(2, 0, 0), 0);
        x.emit(ZERO, regs(0, 0, 0), 16);
        x.emit(LOAD, regs(2, 1, 0), 0);
        x.start(guesses);
        return x;
    }

    private static void seenDoesNotDependOnGuesses() {
        ReorderCore never = twisted(0);
        int count = never.finish(200);
        String end = seen(never);
        due("ended", never.status(), TRAPPED);
        for (int guesses = 0; guesses < 65536; guesses++) {
            ReorderCore x = twisted(guesses);
            due("guesses " + guesses, x.finish(200), count);
            due("guesses " + guesses, seen(x), end);
        }
        for (int guesses : GUESSES) {
            for (int n = 0; n <= count + 1; n++) {
                ReorderCore first = twisted(0);
                ReorderCore second = twisted(guesses);
                due("guesses " + guesses, second.finish(n), first.finish(n));
                due("guesses " + guesses + ", finish " + n, seen(second), seen(first));
            }
        }
    }

    private static void finishUntilNMore() {
        for (int n = 1; n <= 200; n++) {
            ReorderCore x = endAfter(300, HALT, 0, 0);
            due("finish " + n, x.finish(n), n);
            due("finish " + n + ": status", x.status(), RUNNING);
            due("finish " + n + ": finished", x.finished(), n);
            due("n more", x.finish(5), 5);
            due("n more: finished", x.finished(), n + 5);
        }
    }

    private static void finishUntilHalted() {
        for (int count : new int[] {2, 7, 8, 9, 198, 199}) {
            for (int asked : new int[] {count + 1, count + 2, 200, 201, MAX}) {
                ReorderCore x = endAfter(count, HALT, 0, 0);
                String what = "HALT after " + count + ", finish " + asked;
                due(what, x.finish(asked), count + 1);
                dueRun(what, x, HALTED, endPosition(count), count + 1);
            }
            ReorderCore x = endAfter(count, HALT, 0, 0);
            String what = "HALT after " + count + ", finish " + count;
            due(what, x.finish(count), count);
            dueRun(what, x, RUNNING, endPosition(count), count);
            due(what, x.finish(200), 1);
            dueRun(what, x, HALTED, endPosition(count), count + 1);
        }
        ReorderCore x = endAfter(200, HALT, 0, 0);
        due("HALT after 200", x.finish(MAX), 200);
        dueRun("HALT after 200", x, RUNNING, endPosition(200), 200);
        due("HALT after 200", x.finish(MAX), 1);
        dueRun("HALT after 200", x, HALTED, endPosition(200), 201);
    }

    private static void finishUntilTrapped() {
        for (int[] t : TRAPS) {
            for (int count : new int[] {2, 7, 8, 9, 198, 199}) {
                for (int asked : new int[] {count + 1, count + 2, 200, 201, MAX}) {
                    ReorderCore x = endAfter(count, t[0], t[1], t[2]);
                    String what = "op " + t[0] + " after " + count + ", finish " + asked;
                    due(what, x.finish(asked), count);
                    dueRun(what, x, TRAPPED, endPosition(count), count);
                }
            }
        }
    }

    private static final int[] NEGATIVES = {-1, -2, -200, -201, -65536, MIN, MIN + 1};

    private static void belowZeroCountsAsZero() {
        for (int n : NEGATIVES) {
            dueUnchangedByFinish(n);
        }
    }

    private static void zeroChangesNothing() {
        dueUnchangedByFinish(0);
    }

    /** In every state, at the start of a run, and where the next one would HALT or trap in one way or another. */
    private static void dueUnchangedByFinish(int n) {
        for (int state : STATES) {
            dueUnchanged("state " + state, inState(state), n);
            ReorderCore begun = inState(state);
            begun.start(0);
            dueUnchanged("start after state " + state, begun, n);
        }
        for (int[] t : TRAPS) {
            ReorderCore x = endAfter(2, t[0], t[1], t[2]);
            x.finish(2);
            dueUnchanged("before op " + t[0] + " traps", x, n);
        }
        ReorderCore outside = new ReorderCore();
        outside.emit(JUMP, 0, MIN);
        outside.start(0);
        outside.finish(1);
        dueUnchanged("before a trap outside", outside, n);
        ReorderCore empty = new ReorderCore();
        empty.start(0);
        dueUnchanged("empty program", empty, n);
    }

    private static void dueUnchanged(String what, ReorderCore x, int n) {
        String before = seen(x);
        due(what + ": finish " + n, x.finish(n), 0);
        due(what + ": finish " + n, seen(x), before);
    }

    private static void aboveTwoHundredCountsAsTwoHundred() {
        for (int n : new int[] {200, 201, 202, 256, 400, 65536, MAX - 1, MAX}) {
            ReorderCore x = endAfter(1000, HALT, 0, 0);
            due("finish " + n, x.finish(n), 200);
            due("finish " + n + ": status", x.status(), RUNNING);
            due("finish " + n + ": finished", x.finished(), 200);
            due("again", x.finish(n), 200);
            due("again: finished", x.finished(), 400);
        }
        due("below 200", endAfter(1000, HALT, 0, 0).finish(199), 199);
    }

    private static void zeroWhenNotRunning() {
        for (int state : new int[] {IDLE, HALTED, TRAPPED}) {
            for (int n : new int[] {1, 2, 199, 200, 201, MAX, 0, -1, MIN}) {
                dueUnchanged("state " + state, inState(state), n);
            }
        }
    }

    private static void stillRunningBeforeATrap() {
        for (int[] t : TRAPS) {
            for (int count : new int[] {2, 3, 8, 9, 199, 200}) {
                dueStillRunning("op " + t[0] + " after " + count, endAfter(count, t[0], t[1], t[2]), count,
                    endPosition(count));
            }
            ReorderCore x = new ReorderCore();
            setRegisters(x, 0, -1, 0, 5);
            x.emit(SET, regs(2, 0, 0), 8);
            x.emit(t[0], t[1], t[2]);
            x.start(0);
            dueStillRunning("op " + t[0] + " after 1", x, 1, 1);
        }
        for (int to : new int[] {-1, 1, 16, MIN, MAX}) {
            ReorderCore x = new ReorderCore();
            x.emit(JUMP, 0, to);
            x.start(0);
            dueStillRunning("JUMP to " + to, x, 1, to);
        }
        ReorderCore x = new ReorderCore();
        emitTimes(x, 16, SET, 0, 1);
        x.start(0);
        dueStillRunning("off the end", x, 16, 16);
    }

    private static void dueStillRunning(String what, ReorderCore x, int count, int position) {
        due(what, x.finish(count), count);
        dueRun(what, x, RUNNING, position, count);
        due(what + ": then the trap", x.finish(1), 0);
        dueRun(what + ": then the trap", x, TRAPPED, position, count);
    }

    private static void statusOfEachKind() {
        ReorderCore x = new ReorderCore();
        due("new", x.status(), 0);
        x.emit(ZERO, 0, 1);
        due("not started", x.status(), 0);
        x.start(0);
        due("started", x.status(), 1);
        due("past the end, not yet trapped", x.finish(1), 1);
        due("past the end, not yet trapped", x.status(), 1);
        x.finish(1);
        due("trapped", x.status(), 3);
        x.emit(HALT, 0, 0);
        due("appended", x.status(), 0);
        x.start(0);
        x.finish(1);
        due("before the HALT", x.status(), 1);
        x.finish(1);
        due("at the HALT", x.status(), 2);
        x.start(0);
        due("started anew", x.status(), 1);
        x.clear();
        due("cleared", x.status(), 0);
    }

    private static void positionOfTheNext() {
        ReorderCore x = new ReorderCore();
        int[] order = {0, 15, 1, 14, 2, 13, 3, 12, 4, 11, 5, 10, 6, 9, 7, 8};
        for (int i = 0; i < 16; i++) {
            int place = 0;
            while (order[place] != i) {
                place++;
            }
            x.emit(place % 2 == 0 ? JUMP : ZERO, 0, place == 15 ? 0 : order[place + 1]);
        }
        x.start(0x1234);
        for (int step = 0; step < 40; step++) {
            due("after " + step, x.position(), order[step % 16]);
            due("after " + step, x.finish(1), 1);
        }
    }

    private static void positionWhenHalted() {
        for (int at : new int[] {0, 1, 14, 15}) {
            ReorderCore x = new ReorderCore();
            emitTimes(x, at, SET, 0, 1);
            x.emit(HALT, 0, 7);
            x.start(0);
            x.finish(200);
            dueRun("HALT at " + at, x, HALTED, at, at + 1);
            x.set(0, 5);
            x.finish(200);
            dueRun("HALT at " + at + ", later", x, HALTED, at, at + 1);
        }
    }

    private static void positionWhenTrapped() {
        for (int at : new int[] {0, 1, 14, 15}) {
            for (int[] t : TRAPS) {
                ReorderCore x = new ReorderCore();
                setRegisters(x, 0, -1, 0, 5);
                emitTimes(x, at, SET, regs(2, 0, 0), 1);
                x.emit(t[0], t[1], t[2]);
                x.start(0);
                x.finish(200);
                dueRun("op " + t[0] + " at " + at, x, TRAPPED, at, at);
            }
        }
        for (int to : new int[] {-1, 2, 16, MIN, MAX}) {
            ReorderCore x = new ReorderCore();
            x.emit(JUMP, 0, 1);
            x.emit(ZERO, 0, to);
            x.start(0);
            x.finish(200);
            dueRun("outside at " + to, x, TRAPPED, to, 2);
        }
    }

    private static void positionWhenIdle() {
        due("new", new ReorderCore().position(), 0);
        for (int state : STATES) {
            ReorderCore cleared = inState(state);
            cleared.clear();
            due("cleared in state " + state, cleared.position(), 0);
            ReorderCore appended = inState(state);
            appended.emit(SET, 0, 1);
            due("appended in state " + state, appended.position(), 0);
        }
        for (int to : new int[] {-1, 16, MIN, MAX}) {
            ReorderCore outside = one(JUMP, 0, to, 0, 0, 0, 0);
            outside.emit(SET, 0, 1);
            due("appended at " + to, outside.position(), 0);
        }
    }

    private static void finishedWhenIdle() {
        due("new", new ReorderCore().finished(), 0);
        for (int state : STATES) {
            ReorderCore cleared = inState(state);
            cleared.clear();
            due("cleared in state " + state, cleared.finished(), 0);
            ReorderCore appended = inState(state);
            appended.emit(SET, 0, 1);
            due("appended in state " + state, appended.finished(), 0);
        }
    }

    private static void finishedSinceTheStart() {
        ReorderCore x = endAfter(1000, HALT, 0, 0);
        due("none yet", x.finished(), 0);
        int[] asked = {0, 1, -1, 2, 200, 201, 199, MAX, 200, MIN, 1, 200};
        int sum = 0;
        for (int n : asked) {
            sum += x.finish(n);
            due("after finish " + n, x.finished(), sum);
        }
        x.finish(1);
        x.start(0);
        due("since the start", x.finished(), 0);
        x.finish(3);
        due("since the start", x.finished(), 3);
        ReorderCore halted = inState(HALTED);
        due("with the HALT", halted.finished(), 2);
        ReorderCore trapped = inState(TRAPPED);
        due("without what traps", trapped.finished(), 1);
    }

    private static final int[] NO_REGISTERS = {-1, 4, 5, 7, 8, 15, 16, -4, 256, 1 << 16, MIN, MIN + 3, MAX};
    private static final int[] NO_CELLS = {-1, 8, 9, 15, 16, -8, 256, 1 << 16, MIN, MIN + 7, MAX};

    private static void noSuchRegister() {
        for (int state : STATES) {
            ReorderCore x = inState(state);
            for (int i : NO_REGISTERS) {
                due("state " + state + ": register " + i, x.register(i), 0);
            }
            dueRegisters("state " + state, x, state == IDLE ? 1 : 3, 2, 3, 0);
        }
        ReorderCore x = new ReorderCore();
        setRegisters(x, MIN, MAX, -1, 44);
        dueRegisters("the edges", x, MIN, MAX, -1, 44);
    }

    private static void noSuchCell() {
        for (int state : STATES) {
            ReorderCore x = inState(state);
            for (int i : NO_CELLS) {
                due("state " + state + ": memory " + i, x.memory(i), 0);
            }
            dueCells("state " + state, x, 100, 101, 102, 103, 104, 105, 106, 107);
        }
        ReorderCore x = new ReorderCore();
        x.set(8, MIN);
        x.set(15, MAX);
        dueCells("the edges", x, MIN, 0, 0, 0, 0, 0, 0, MAX);
    }

    private static int weight(int place) {
        return place < 4 ? place + 1 : place - 8 + 5;
    }

    private static void digestWeights() {
        due("nothing held", new ReorderCore().digest(), 0);
        for (int place = 0; place < 16; place = place == 3 ? 8 : place + 1) {
            for (int v : new int[] {1, -1, 10, 1000003}) {
                ReorderCore x = new ReorderCore();
                x.set(place, v);
                due("set " + place + " to " + v, x.digest(), v * weight(place));
            }
        }
    }

    private static void digestWraps() {
        for (int place = 0; place < 16; place = place == 3 ? 8 : place + 1) {
            for (int v : new int[] {MIN, MAX, MIN + 1, 1 << 30, -(1 << 30)}) {
                ReorderCore x = new ReorderCore();
                x.set(place, v);
                due("set " + place + " to " + v, x.digest(), (int) ((long) v * weight(place)));
            }
        }
        ReorderCore edge = new ReorderCore();
        edge.set(0, MAX);
        due("the greatest", edge.digest(), MAX);
        edge.set(1, 1);
        due("over the greatest", edge.digest(), MIN + 1);
        edge.set(0, MIN);
        edge.set(1, -1);
        due("under the least", edge.digest(), MAX - 1);
        ReorderCore all = new ReorderCore();
        for (int place = 0; place < 16; place++) {
            all.set(place, MAX);
        }
        due("all the greatest", all.digest(), (int) (78L * MAX));
    }

    private static void digestOfTheFinishedAlone() {
        ReorderCore x = new ReorderCore();
        x.emit(SET, regs(0, 0, 0), 3);
        x.emit(SET, regs(3, 0, 0), MAX);
        x.emit(STORE, regs(3, 0, 0), 0);
        x.start(0);
        int[] after = {0, 3, (int) (3 + 4L * MAX), (int) (3 + 12L * MAX)};
        for (int i = 0; i < 4; i++) {
            due("after " + i, x.digest(), after[i]);
            x.finish(1);
        }
        due("trapped", x.digest(), after[3]);
        x.clear();
        due("cleared", x.digest(), after[3]);
    }

    public static void main(String[] args) {
        sentence("Promise 6: Starts a run, forgetting any other", RunSentencesTest::startForgetsAnyOther);
        sentence("Promise 6: forgetting any other (and what it had begun)",
            RunSentencesTest::startForgetsWhatWasHalfDone);
        sentence("Promise 6: RUNNING (also with an empty program).", RunSentencesTest::startWithEmptyProgram);
        sentence("Promise 6: bit p (p the position modulo 16)", RunSentencesTest::guessBitOfEachPosition);
        sentence("Promise 6: What can be seen does not depend on it.", RunSentencesTest::seenDoesNotDependOnGuesses);
        sentence("Promise 7: Goes on until n more instructions are finished; answers how many",
            RunSentencesTest::finishUntilNMore);
        sentence("Promise 7: or the run is HALTED", RunSentencesTest::finishUntilHalted);
        sentence("Promise 7: or TRAPPED", RunSentencesTest::finishUntilTrapped);
        sentence("Promise 7: n below 0 counts as 0", RunSentencesTest::belowZeroCountsAsZero);
        sentence("Promise 7: above 200 as 200", RunSentencesTest::aboveTwoHundredCountsAsTwoHundred);
        sentence("Promise 7: 0 when the run is not RUNNING", RunSentencesTest::zeroWhenNotRunning);
        sentence("Promise 7: With n = 0 nothing changes.", RunSentencesTest::zeroChangesNothing);
        sentence("Promise 7: When the n-th is finished and the next one would trap, the run is still RUNNING.",
            RunSentencesTest::stillRunningBeforeATrap);
        sentence("Promise 8: IDLE, RUNNING, HALTED or TRAPPED.", RunSentencesTest::statusOfEachKind);
        sentence("Promise 9: The position of the next instruction to be finished", RunSentencesTest::positionOfTheNext);
        sentence("Promise 9: for a HALTED run that of its HALT", RunSentencesTest::positionWhenHalted);
        sentence("Promise 9: for a TRAPPED one that of what traps", RunSentencesTest::positionWhenTrapped);
        sentence("Promise 9: 0 when IDLE", RunSentencesTest::positionWhenIdle);
        sentence("Promise 10: The number of instructions finished since the start",
            RunSentencesTest::finishedSinceTheStart);
        sentence("Promise 10: 0 when IDLE", RunSentencesTest::finishedWhenIdle);
        sentence("Promise 11: 0 when i is not 0 .. 3", RunSentencesTest::noSuchRegister);
        sentence("Promise 12: 0 when i is not 0 .. 7", RunSentencesTest::noSuchCell);
        sentence("Promise 13: register i weighted with i + 1 and cell i with i + 5", RunSentencesTest::digestWeights);
        sentence("Promise 13: The wrapping sum", RunSentencesTest::digestWraps);
        sentence("Promise 13: (of what the finished instructions leave)", RunSentencesTest::digestOfTheFinishedAlone);
        end();
    }
}
