/** Promises 1 to 5 and 14: a test for each sentence that names a boundary case. */
public final class ProgramSentencesTest extends TestBase {
    private static final int[] BAD_OPS = {-1, 9, 10, -9, 16, 256, 1 << 16, MIN, MAX, MIN + 8};
    private static final int[] BAD_REGS = {-1, 64, 65, -64, 128, 256, 1 << 16, MIN, MAX, MIN + 63};

    private static void newProgramIsEmpty() {
        ReorderCore x = new ReorderCore();
        due("length", x.length(), 0);
        x.start(0);
        due("nothing to finish", x.finish(1), 0);
        dueRun("nothing to finish", x, TRAPPED, 0, 0);
        due("first position", new ReorderCore().emit(HALT, 0, 0), 0);
    }

    private static void newRegistersAndCellsAreZero() {
        ReorderCore used = inState(HALTED);
        ReorderCore x = new ReorderCore();
        dueRegisters("new", x, 0, 0, 0, 0);
        dueCells("new", x, 0, 0, 0, 0, 0, 0, 0, 0);
        due("new: digest", x.digest(), 0);
        due("the other object stays", used.register(0), 3);
    }

    private static void newIsIdle() {
        ReorderCore x = new ReorderCore();
        dueRun("new", x, IDLE, 0, 0);
        due("no run", x.finish(200), 0);
        dueRun("no run", x, IDLE, 0, 0);
    }

    private static void emitAnswersItsPosition() {
        ReorderCore x = new ReorderCore();
        for (int i = 0; i < 16; i++) {
            due("position", x.emit(SET, i % 4, i), i);
            due("refused in between", x.emit(9, 0, 0), BAD);
        }
    }

    private static void emitTakesEveryOp() {
        for (int op = 0; op <= 8; op++) {
            ReorderCore x = new ReorderCore();
            due("op " + op, x.emit(op, 0, 0), 0);
            due("op " + op + ": length", x.length(), 1);
        }
    }

    private static void emitTakesEveryRegs() {
        for (int op = 0; op <= 8; op++) {
            for (int regs = 0; regs <= 63; regs++) {
                ReorderCore x = new ReorderCore();
                due("op " + op + ", regs " + regs, x.emit(op, regs, 0), 0);
                due("op " + op + ", regs " + regs + ": length", x.length(), 1);
            }
        }
    }

    /** For every op and regs: what regs keeps of the numbers that the operation uses decides all that is seen. */
    private static void unusedNumbersDoNotMatter() {
        int[] used = {3, 63, 63, 63, 15, 15, 3, 0, 0};
        for (int op = 0; op <= 8; op++) {
            for (int regs = 0; regs <= 63; regs++) {
                String whole = seen(one(op, regs, 6, 40, 7, -2, 0));
                String bare = seen(one(op, regs & used[op], 6, 40, 7, -2, 0));
                due("op " + op + ", regs " + regs, whole, bare);
            }
        }
    }

    private static void unusedNDoesNotMatter() {
        for (int op : new int[] {ADD, MUL, DIV, LOAD, STORE, HALT}) {
            for (int n : new int[] {1, -1, 16, MIN, MAX}) {
                String with = seen(one(op, regs(0, 1, 2), n, 40, 7, -2, 0));
                due("op " + op + ", n " + n, with, seen(one(op, regs(0, 1, 2), 0, 40, 7, -2, 0)));
            }
        }
    }

    private static void nMayBeAnyInt() {
        for (int n : new int[] {0, 1, -1, 16, -16, MIN, MAX}) {
            due("SET " + n, one(SET, 0, n, 9, 9, 9, 9).register(0), n);
            due("JUMP " + n, one(JUMP, 0, n, 9, 9, 9, 9).position(), n);
            due("ZERO " + n, one(ZERO, 0, n, 0, 9, 9, 9).position(), n);
        }
    }

    private static void badOp() {
        for (int op : BAD_OPS) {
            for (int regs : new int[] {0, 63, -1, 64}) {
                due("op " + op + ", regs " + regs, new ReorderCore().emit(op, regs, 0), BAD);
            }
        }
    }

    private static void badRegs() {
        for (int regs : BAD_REGS) {
            for (int op = 0; op <= 8; op++) {
                due("op " + op + ", regs " + regs, new ReorderCore().emit(op, regs, 0), BAD);
            }
        }
    }

    private static ReorderCore full() {
        ReorderCore x = new ReorderCore();
        setRegisters(x, 0, 1, 0, 0);
        emitTimes(x, 15, ADD, regs(0, 0, 1), 0);
        x.emit(JUMP, 0, 0);
        return x;
    }

    private static void fullAtSixteen() {
        ReorderCore x = new ReorderCore();
        emitTimes(x, 15, HALT, 0, 0);
        due("the 16th", x.emit(HALT, 63, 0), 15);
        for (int op = 0; op <= 8; op++) {
            due("the 17th", x.emit(op, 0, 0), FULL);
            due("the 17th", x.emit(op, 63, MAX), FULL);
        }
        due("length", x.length(), 16);
        x.clear();
        due("room again", x.emit(HALT, 0, 0), 0);
    }

    private static void appendedEndsARun() {
        for (int state : STATES) {
            ReorderCore x = inState(state);
            String before = held(x);
            due("state " + state + ": emit", x.emit(HALT, 0, 0), 2);
            dueRun("state " + state, x, IDLE, 0, 0);
            due("state " + state, held(x), before);
            due("state " + state + ": no run", x.finish(200), 0);
            dueRun("state " + state + ": no run", x, IDLE, 0, 0);
            due("state " + state, held(x), before);
            due("state " + state + ": set", x.set(0, 5), true);
        }
        ReorderCore x = new ReorderCore();
        emitTimes(x, 15, ADD, 0, 0);
        x.start(0);
        x.finish(3);
        due("the 16th", x.emit(HALT, 0, 0), 15);
        dueRun("the 16th", x, IDLE, 0, 0);
    }

    private static void clearEmpties() {
        ReorderCore x = new ReorderCore();
        x.clear();
        due("clear when empty", x.length(), 0);
        dueRun("clear when empty", x, IDLE, 0, 0);
        emitTimes(x, 16, SET, 0, 5);
        x.clear();
        due("clear when full", x.length(), 0);
        for (int i = 0; i < 16; i++) {
            due("filled again", x.emit(SET, 1, 6), i);
        }
        due("full again", x.emit(SET, 1, 6), FULL);
        x.start(0);
        due("the new ones alone", x.finish(200), 16);
        dueRegisters("the new ones alone", x, 0, 6, 0, 0);
    }

    private static void clearMakesIdle() {
        for (int state : STATES) {
            ReorderCore x = inState(state);
            x.clear();
            dueRun("from state " + state, x, IDLE, 0, 0);
            due("from state " + state + ": no run", x.finish(200), 0);
            dueRun("from state " + state + ": no run", x, IDLE, 0, 0);
            due("from state " + state + ": set", x.set(0, 5), true);
        }
    }

    private static void clearKeepsRegistersAndCells() {
        for (int state : STATES) {
            ReorderCore x = inState(state);
            String before = held(x);
            x.clear();
            due("from state " + state, held(x), before);
        }
    }

    private static void lengthCounts() {
        ReorderCore x = new ReorderCore();
        due("empty", x.length(), 0);
        for (int i = 1; i <= 16; i++) {
            x.emit(HALT, 0, 0);
            due("after " + i, x.length(), i);
            x.emit(-1, 0, 0);
            x.emit(0, 64, 0);
            due("after " + i + " and refused ones", x.length(), i);
        }
        x.emit(HALT, 0, 0);
        due("full", x.length(), 16);
        x.start(0);
        x.finish(1);
        due("a run leaves it", x.length(), 16);
        x.clear();
        due("cleared", x.length(), 0);
    }

    private static final int[] VALUES = {0, 1, -1, 65536, MIN, MAX};

    private static void setRegister() {
        for (int r = 0; r < 4; r++) {
            for (int v : VALUES) {
                ReorderCore x = new ReorderCore();
                setRegisters(x, 21, 22, 23, 24);
                markCells(x);
                due("set " + r, x.set(r, v), true);
                for (int i = 0; i < 4; i++) {
                    due("set " + r + " to " + v + ": register " + i, x.register(i), i == r ? v : 21 + i);
                }
                dueCells("set " + r, x, 100, 101, 102, 103, 104, 105, 106, 107);
            }
        }
    }

    private static void setCell() {
        for (int c = 0; c < 8; c++) {
            for (int v : VALUES) {
                ReorderCore x = new ReorderCore();
                setRegisters(x, 21, 22, 23, 24);
                markCells(x);
                due("set " + (8 + c), x.set(8 + c, v), true);
                dueRegisters("set " + (8 + c), x, 21, 22, 23, 24);
                for (int i = 0; i < 8; i++) {
                    due("set " + (8 + c) + " to " + v + ": cell " + i, x.memory(i), i == c ? v : 100 + i);
                }
            }
        }
    }

    private static final int[] NO_PLACES = {-1, 4, 5, 6, 7, 16, 17, 24, -4, -8, 256, 264, 1 << 16, MIN, MIN + 3,
        MIN + 8, MAX};

    private static void setAnyOtherChangesNothing() {
        for (int state : STATES) {
            for (int i : NO_PLACES) {
                ReorderCore x = inState(state);
                String before = seen(x);
                due("state " + state + ": set " + i, x.set(i, 77), false);
                due("state " + state + ": set " + i, seen(x), before);
            }
        }
    }

    private static void setWhileNotRunning() {
        for (int state : new int[] {IDLE, HALTED, TRAPPED}) {
            ReorderCore x = inState(state);
            int position = x.position();
            int finished = x.finished();
            due("state " + state + ": register", x.set(3, 9), true);
            due("state " + state + ": cell", x.set(15, 10), true);
            due("state " + state + ": register", x.register(3), 9);
            due("state " + state + ": cell", x.memory(7), 10);
            dueRun("state " + state + ": the run stays", x, state, position, finished);
            due("state " + state + ": length", x.length(), 2);
        }
    }

    /** RUNNING also before the first finish, with an empty program, and where the next one would trap or HALT. */
    private static void setWhileRunningChangesNothing() {
        ReorderCore empty = new ReorderCore();
        empty.start(0);
        dueRefusedSets("empty program", empty);
        ReorderCore begun = inState(HALTED);
        begun.start(0);
        dueRefusedSets("nothing finished", begun);
        ReorderCore beforeTrap = inState(TRAPPED);
        beforeTrap.start(0);
        beforeTrap.finish(1);
        dueRefusedSets("before the trap", beforeTrap);
        due("the trap", beforeTrap.finish(1), 0);
        due("the trap", beforeTrap.set(3, 1), true);
        ReorderCore beforeHalt = inState(RUNNING);
        dueRefusedSets("before the HALT", beforeHalt);
        due("the HALT", beforeHalt.finish(1), 1);
        due("the HALT", beforeHalt.set(3, 1), true);
    }

    private static void dueRefusedSets(String what, ReorderCore x) {
        String before = seen(x);
        due(what + ": RUNNING", x.status(), RUNNING);
        for (int i = -2; i <= 18; i++) {
            due(what + ": set " + i, x.set(i, 77), false);
        }
        due(what, seen(x), before);
    }

    private static void setWhileRunningWhateverIIs() {
        ReorderCore x = inState(RUNNING);
        String before = seen(x);
        for (int i : NO_PLACES) {
            due("set " + i, x.set(i, 77), false);
        }
        for (int i = 0; i < 16; i++) {
            due("set " + i, x.set(i, 77), false);
        }
        due("nothing changed", seen(x), before);
        due("the run goes on", x.finish(9), 1);
        dueRun("the run goes on", x, HALTED, 1, 2);
    }

    private static void badBeforeFull() {
        for (int op : BAD_OPS) {
            due("op " + op + " when full", full().emit(op, 0, 0), BAD);
        }
        for (int regs : BAD_REGS) {
            due("regs " + regs + " when full", full().emit(SET, regs, 0), BAD);
        }
        due("both when full", full().emit(9, 64, 0), BAD);
        due("neither when full", full().emit(8, 63, 0), FULL);
    }

    private static void badChangesNothing() {
        for (int state : STATES) {
            for (int[] wrong : new int[][] {{-1, 0}, {9, 0}, {0, -1}, {0, 64}, {9, 64}, {MIN, MIN}, {MAX, MAX}}) {
                ReorderCore x = inState(state);
                String before = seen(x);
                String what = "state " + state + ": op " + wrong[0] + ", regs " + wrong[1];
                due(what, x.emit(wrong[0], wrong[1], 9), BAD);
                due(what, seen(x), before);
                due(what + ": the run goes on", x.finish(9), state == RUNNING ? 1 : 0);
                due(what + ": the run goes on", x.status(), state == RUNNING ? HALTED : state);
            }
        }
    }

    private static void fullChangesNothing() {
        ReorderCore idle = full();
        String before = seen(idle);
        due("IDLE", idle.emit(SET, 0, 9), FULL);
        due("IDLE", seen(idle), before);
        dueFullProgramUntouched("IDLE", idle);
        ReorderCore running = full();
        running.start(0);
        running.finish(14);
        before = seen(running);
        due("RUNNING", running.emit(SET, 0, 9), FULL);
        due("RUNNING", seen(running), before);
        due("the run goes on", running.finish(3), 3);
        dueRun("the run goes on", running, RUNNING, 1, 17);
        dueRegisters("the run goes on", running, 16, 1, 0, 0);
        dueFullProgramUntouched("RUNNING", running);
        for (int op : new int[] {HALT, DIV}) {
            ReorderCore ended = new ReorderCore();
            emitTimes(ended, 16, op, 0, 0);
            ended.start(0);
            ended.finish(1);
            before = seen(ended);
            due("ended by op " + op, ended.emit(SET, 0, 9), FULL);
            due("ended by op " + op, seen(ended), before);
            due("ended by op " + op, ended.status(), op == HALT ? HALTED : TRAPPED);
        }
    }

    private static void dueFullProgramUntouched(String what, ReorderCore x) {
        int before = x.register(0);
        x.start(0);
        due(what + ": the old program", x.finish(32), 32);
        dueRun(what + ": the old program", x, RUNNING, 0, 32);
        dueRegisters(what + ": the old program", x, before + 30, 1, 0, 0);
    }

    /** The next one to finish may have been looked at before the refused call: it must still be the old one. */
    private static void refusedCallsInEveryPlaceOfARun() {
        ReorderCore plain = full();
        plain.start(0);
        plain.finish(33);
        String due = seen(plain);
        for (int at = 0; at <= 33; at++) {
            ReorderCore x = full();
            x.start(0);
            x.finish(at);
            x.emit(SET, 0, 9);
            x.emit(9, 0, 9);
            x.set(0, 9);
            x.set(8, 9);
            x.set(4, 9);
            x.finish(0);
            x.finish(-1);
            x.finish(33 - at);
            due("refused after " + at, seen(x), due);
        }
    }

    public static void main(String[] args) {
        sentence("Promise 1: An empty program", ProgramSentencesTest::newProgramIsEmpty);
        sentence("Promise 1: all registers and cells 0", ProgramSentencesTest::newRegistersAndCellsAreZero);
        sentence("Promise 1: IDLE", ProgramSentencesTest::newIsIdle);
        sentence("Promise 2: Appends an instruction and answers its position.",
            ProgramSentencesTest::emitAnswersItsPosition);
        sentence("Promise 2: (op 0 .. 8 is taken)", ProgramSentencesTest::emitTakesEveryOp);
        sentence("Promise 2: regs is a + 4 * b + 16 * c (0 .. 63", ProgramSentencesTest::emitTakesEveryRegs);
        sentence("Promise 2: numbers that the operation does not use do not matter",
            ProgramSentencesTest::unusedNumbersDoNotMatter);
        sentence("Promise 2: n the number of SET, ZERO and JUMP (of no other)",
            ProgramSentencesTest::unusedNDoesNotMatter);
        sentence("Promise 2: n the number of SET, ZERO and JUMP", ProgramSentencesTest::nMayBeAnyInt);
        sentence("Promise 2: BAD when op is not 0 .. 8", ProgramSentencesTest::badOp);
        sentence("Promise 2: BAD when regs is not 0 .. 63", ProgramSentencesTest::badRegs);
        sentence("Promise 2: FULL when there are 16.", ProgramSentencesTest::fullAtSixteen);
        sentence("Promise 2: An instruction that is appended ends a run: IDLE.",
            ProgramSentencesTest::appendedEndsARun);
        sentence("Promise 3: Empties the program", ProgramSentencesTest::clearEmpties);
        sentence("Promise 3: IDLE.", ProgramSentencesTest::clearMakesIdle);
        sentence("Promise 3: (Registers and cells stay.)", ProgramSentencesTest::clearKeepsRegistersAndCells);
        sentence("Promise 4: The number of instructions.", ProgramSentencesTest::lengthCounts);
        sentence("Promise 5: Sets register i (0 .. 3) to v and answers true", ProgramSentencesTest::setRegister);
        sentence("Promise 5: for i from 8 to 15, memory cell i - 8", ProgramSentencesTest::setCell);
        sentence("Promise 5: false, changing nothing, for any other i",
            ProgramSentencesTest::setAnyOtherChangesNothing);
        sentence("Promise 5: answers true (while no run is RUNNING)", ProgramSentencesTest::setWhileNotRunning);
        sentence("Promise 5: false, changing nothing, while a run is RUNNING",
            ProgramSentencesTest::setWhileRunningChangesNothing);
        sentence("Promise 14: BAD is tested before FULL", ProgramSentencesTest::badBeforeFull);
        sentence("Promise 14: with BAD nothing changes, and a run goes on as it was",
            ProgramSentencesTest::badChangesNothing);
        sentence("Promise 14: with FULL nothing changes, and a run goes on as it was",
            ProgramSentencesTest::fullChangesNothing);
        sentence("Promise 14: with either of them a run goes on as it was",
            ProgramSentencesTest::refusedCallsInEveryPlaceOfARun);
        sentence("Promise 14: while a run is RUNNING the answer is false, whatever i is",
            ProgramSentencesTest::setWhileRunningWhateverIIs);
        end();
    }
}
