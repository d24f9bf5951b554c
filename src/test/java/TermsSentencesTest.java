/** "What it is" and "Terms": a test for each sentence that names a boundary case. */
public final class TermsSentencesTest extends TestBase {
    private static final int[] WIDE_VALUES = {1, -1, 2, 8, 256, 65536, 1 << 30, MIN, MAX, MIN + 1};

    private static void rightUpToCall512() {
        ReorderCore x = new ReorderCore();
        due("call 1", x.emit(JUMP, 0, 0), 0);
        x.start(0);
        for (int call = 3; call <= 511; call++) {
            due("call " + call, x.finish(200), 200);
        }
        due("call 512", x.finished(), 509 * 200);
        ReorderCore y = new ReorderCore();
        for (int call = 1; call <= 511; call++) {
            due("call " + call, y.set(8 + call % 8, call), true);
        }
        due("call 512", y.memory(7), 511);
    }

    private static void sixteenInstructions() {
        ReorderCore x = new ReorderCore();
        x.set(1, 1);
        for (int i = 0; i < 15; i++) {
            due("the next position", x.emit(ADD, regs(0, 0, 1), 0), i);
        }
        due("the last position", x.emit(HALT, 0, 0), 15);
        due("one too many", x.emit(HALT, 0, 0), FULL);
        due("length", x.length(), 16);
        x.start(0);
        due("all sixteen are carried out", x.finish(200), 16);
        dueRun("all sixteen are carried out", x, HALTED, 15, 16);
        due("all sixteen are carried out", x.register(0), 15);
    }

    private static void registersAndCellsHoldInts() {
        for (int v : new int[] {MIN, MAX, -1, 0, 65536}) {
            for (int r = 0; r < 4; r++) {
                ReorderCore x = one(SET, regs(r, 0, 0), v, 1, 2, 3, 4);
                for (int i = 0; i < 4; i++) {
                    due("SET " + r + " " + v + ": register " + i, x.register(i), i == r ? v : i + 1);
                }
                dueCells("SET " + r, x, 100, 101, 102, 103, 104, 105, 106, 107);
            }
            for (int c = 0; c < 8; c++) {
                ReorderCore x = one(STORE, regs(0, 1, 0), 0, v, c, 3, 4);
                for (int i = 0; i < 8; i++) {
                    due("STORE in " + c + ": cell " + i, x.memory(i), i == c ? v : 100 + i);
                }
                dueRegisters("STORE in " + c, x, v, c, 3, 4);
            }
        }
    }

    private static int worked(int op, int b, int c) {
        return op == ADD ? b + c : op == MUL ? b * c : b / c;
    }

    /** Registers 0 and 3 are the edges of a, of b and of c, also when they are the same one. */
    private static void everyRegisterInEveryPlace() {
        int[] before = {3, 17, 200, 5000};
        for (int regs = 0; regs <= 63; regs++) {
            int a = regs & 3;
            int b = before[regs >> 2 & 3];
            int c = before[regs >> 4];
            for (int op = ADD; op <= DIV; op++) {
                ReorderCore x = one(op, regs, 0, before);
                for (int i = 0; i < 4; i++) {
                    int want = i == a ? worked(op, b, c) : before[i];
                    due("op " + op + " " + regs + ": register " + i, x.register(i), want);
                }
            }
            due("LOAD " + regs, one(LOAD, regs, 0, before).register(a), 100 + (b & 7));
            due("STORE " + regs, one(STORE, regs, 0, before).memory(b & 7), before[a]);
        }
    }

    private static void addWraps() {
        int[][] sums = {{MAX, 1, MIN}, {1, MAX, MIN}, {MIN, -1, MAX}, {MIN, MIN, 0}, {MAX, MAX, -2}, {MAX, MIN, -1},
            {MAX, 0, MAX}, {MIN, 0, MIN}, {-1, 1, 0}};
        for (int[] s : sums) {
            ReorderCore x = one(ADD, regs(0, 1, 2), 0, 9, s[0], s[1], 0);
            dueRun("ADD does not trap", x, RUNNING, 1, 1);
            due("ADD " + s[0] + " " + s[1], x.register(0), s[2]);
        }
    }

    private static void mulWraps() {
        int[][] products = {{MAX, 2, -2}, {MIN, 2, 0}, {MIN, -1, MIN}, {-1, MIN, MIN}, {MIN, MIN, 0}, {MAX, MAX, 1},
            {MAX, MIN, MIN}, {65536, 65536, 0}, {65536, 32768, MIN}, {46341, 46341, -2147479015}, {MAX, -1, MIN + 1},
            {MIN, 1, MIN}, {MIN, 0, 0}};
        for (int[] p : products) {
            ReorderCore x = one(MUL, regs(0, 1, 2), 0, 9, p[0], p[1], 0);
            dueRun("MUL does not trap", x, RUNNING, 1, 1);
            due("MUL " + p[0] + " " + p[1], x.register(0), p[2]);
        }
    }

    private static void divRoundsTowardsZero() {
        int[][] quotients = {{7, 2, 3}, {-7, 2, -3}, {7, -2, -3}, {-7, -2, 3}, {1, 2, 0}, {-1, 2, 0}, {1, -2, 0},
            {-1, -2, 0}, {6, 3, 2}, {-6, 3, -2}, {MAX, MIN, 0}, {MIN, MAX, -1}, {MAX, 2, 1073741823},
            {MIN + 1, 2, -1073741823}, {MIN, MIN, 1}, {0, MIN, 0}};
        for (int[] q : quotients) {
            due("DIV " + q[0] + " " + q[1], one(DIV, regs(0, 1, 2), 0, 9, q[0], q[1], 0).register(0), q[2]);
        }
    }

    private static void dueTrapAtOnce(String what, ReorderCore x, int... registers) {
        dueRun(what, x, TRAPPED, 0, 0);
        dueRegisters(what, x, registers);
        dueCells(what, x, 100, 101, 102, 103, 104, 105, 106, 107);
    }

    private static void divTrapsOnZero() {
        for (int dividend : new int[] {0, 1, -1, MIN, MAX}) {
            dueTrapAtOnce("DIV " + dividend + " 0", one(DIV, regs(0, 1, 2), 0, 9, dividend, 0, 4), 9, dividend, 0, 4);
        }
        dueTrapAtOnce("0 by itself", one(DIV, regs(3, 3, 3), 0, 9, 9, 9, 0), 9, 9, 9, 0);
        for (int divisor : WIDE_VALUES) {
            ReorderCore x = one(DIV, regs(0, 1, 2), 0, 9, 0, divisor, 4);
            dueRun("DIV 0 " + divisor, x, RUNNING, 1, 1);
            due("DIV 0 " + divisor, x.register(0), 0);
        }
    }

    private static void leastByMinusOne() {
        int[][] quotients = {{MIN, -1, MIN}, {MIN, 1, MIN}, {MIN + 1, -1, MAX}, {MAX, -1, MIN + 1}};
        for (int[] q : quotients) {
            ReorderCore x = one(DIV, regs(0, 1, 2), 0, 9, q[0], q[1], 0);
            dueRun("DIV " + q[0] + " " + q[1], x, RUNNING, 1, 1);
            due("DIV " + q[0] + " " + q[1], x.register(0), q[2]);
        }
    }

    /** Addresses that are not negative, each with the cell of its low three bits. */
    private static final int[][] ADDRESSES = {{0, 0}, {1, 1}, {7, 7}, {8, 0}, {9, 1}, {15, 7}, {16, 0}, {255, 7},
        {256, 0}, {65541, 5}, {1 << 30, 0}, {MAX - 7, 0}, {MAX - 1, 6}, {MAX, 7}};

    private static void loadTakesLowBits() {
        for (int[] p : ADDRESSES) {
            ReorderCore x = one(LOAD, regs(0, 1, 0), 0, 9, p[0], 3, 4);
            dueRun("LOAD at " + p[0], x, RUNNING, 1, 1);
            dueRegisters("LOAD at " + p[0], x, 100 + p[1], p[0], 3, 4);
            dueCells("LOAD at " + p[0], x, 100, 101, 102, 103, 104, 105, 106, 107);
        }
    }

    private static void storeTakesLowBits() {
        for (int[] p : ADDRESSES) {
            ReorderCore x = one(STORE, regs(0, 1, 0), 0, 9, p[0], 3, 4);
            dueRun("STORE at " + p[0], x, RUNNING, 1, 1);
            dueRegisters("STORE at " + p[0], x, 9, p[0], 3, 4);
            for (int i = 0; i < 8; i++) {
                due("STORE at " + p[0] + ": cell " + i, x.memory(i), i == p[1] ? 9 : 100 + i);
            }
        }
    }

    private static final int[] NEGATIVES = {-1, -2, -7, -8, -9, -65536, MIN + 7, MIN + 1, MIN};

    private static void loadTrapsOnNegative() {
        for (int b : NEGATIVES) {
            dueTrapAtOnce("LOAD at " + b, one(LOAD, regs(0, 1, 0), 0, 9, b, 3, 4), 9, b, 3, 4);
            dueTrapAtOnce("LOAD over " + b, one(LOAD, regs(1, 1, 0), 0, 9, b, 3, 4), 9, b, 3, 4);
        }
        dueRun("a is not looked at", one(LOAD, regs(0, 1, 0), 0, -1, 0, -1, -1), RUNNING, 1, 1);
    }

    private static void storeTrapsOnNegative() {
        for (int b : NEGATIVES) {
            dueTrapAtOnce("STORE at " + b, one(STORE, regs(0, 1, 0), 0, 9, b, 3, 4), 9, b, 3, 4);
            dueTrapAtOnce("STORE of " + b, one(STORE, regs(1, 1, 0), 0, 9, b, 3, 4), 9, b, 3, 4);
        }
        ReorderCore x = one(STORE, regs(0, 1, 0), 0, MIN, 0, -1, -1);
        dueRun("a may be negative", x, RUNNING, 1, 1);
        due("a may be negative", x.memory(0), MIN);
    }

    private static void zeroGoesOnAtNOnlyForZero() {
        for (int guesses : GUESSES) {
            for (int r = 0; r < 4; r++) {
                for (int v : WIDE_VALUES) {
                    dueZero(guesses, r, v, 1);
                }
                dueZero(guesses, r, 0, 9);
            }
        }
    }

    private static void dueZero(int guesses, int r, int v, int position) {
        ReorderCore x = new ReorderCore();
        setRegisters(x, 0, 0, 0, 0);
        for (int i = 0; i < 4; i++) {
            x.set(i, i == r ? v : v == 0 ? 1 : 0);
        }
        x.emit(ZERO, regs(r, 0, 0), 9);
        x.start(guesses);
        due("ZERO on " + v, x.finish(1), 1);
        dueRun("ZERO on " + v, x, RUNNING, position, 1);
    }

    private static void zeroNotTakenMayNameAnything() {
        for (int n : new int[] {-1, 2, 16, MIN, MAX}) {
            for (int guesses : GUESSES) {
                ReorderCore x = new ReorderCore();
                x.set(0, 1);
                x.emit(ZERO, 0, n);
                x.emit(HALT, 0, 0);
                x.start(guesses);
                due("ZERO to " + n + " not taken", x.finish(5), 2);
                dueRun("ZERO to " + n + " not taken", x, HALTED, 1, 2);
            }
        }
    }

    private static void jumpToEveryPosition() {
        for (int from = 0; from < 16; from++) {
            for (int to = 0; to < 16; to++) {
                ReorderCore x = new ReorderCore();
                emitTimes(x, from, ADD, regs(1, 1, 1), 0);
                x.emit(JUMP, 0, to);
                emitTimes(x, 15 - from, ADD, regs(1, 1, 1), 0);
                x.start(0);
                due("up to the JUMP", x.finish(from + 1), from + 1);
                dueRun("JUMP from " + from + " to " + to, x, RUNNING, to, from + 1);
                due("and one more", x.finish(1), 1);
                dueRun("JUMP from " + from + " to " + to, x, RUNNING, from == to ? to : to + 1, from + 2);
            }
        }
    }

    private static void nextPositionUnlessSaidOtherwise() {
        for (int op = SET; op <= ZERO; op++) {
            for (int count = 1; count <= 16; count++) {
                ReorderCore x = new ReorderCore();
                setRegisters(x, 1, 1, 1, 1);
                emitTimes(x, 16, op, regs(0, 1, 2), 3);
                x.start(0);
                due("op " + op + ": finish " + count, x.finish(count), count);
                dueRun("op " + op + ": after " + count, x, RUNNING, count, count);
            }
        }
    }

    private static final int[] LENGTHS = {1, 2, 8, 15, 16};

    private static void outsideTraps() {
        for (int length : LENGTHS) {
            int[] outside = {-1, -2, -15, -16, -length, length, length + 1, 16, 17, 31, 32, 256, 65536, 1 << 28, MIN,
                MAX, MIN + 1, MAX - 1};
            for (int to : outside) {
                for (int op = ZERO; op <= JUMP; op++) {
                    dueOutside(length, op, to, 0);
                    dueOutside(length, op, to, -1);
                }
            }
        }
    }

    private static void dueOutside(int length, int op, int to, int guesses) {
        ReorderCore x = new ReorderCore();
        x.emit(op, 0, to);
        emitTimes(x, length - 1, SET, 1, 5);
        x.start(guesses);
        String what = "op " + op + " to " + to + " of " + length;
        due(what, x.finish(200), 1);
        dueRun(what, x, TRAPPED, to, 1);
        due(what, x.register(1), 0);
    }

    private static void insideDoesNotTrap() {
        for (int length : LENGTHS) {
            for (int op = ZERO; op <= JUMP; op++) {
                for (int to : new int[] {0, length - 1}) {
                    ReorderCore x = new ReorderCore();
                    x.emit(op, 0, to);
                    emitTimes(x, length - 1, SET, 1, 5);
                    x.start(0);
                    due("op " + op + " to " + to + " of " + length, x.finish(2), 2);
                    due("op " + op + " to " + to + " of " + length, x.status(), RUNNING);
                }
            }
        }
    }

    private static void walkingOffTraps() {
        ReorderCore empty = new ReorderCore();
        empty.start(0);
        due("empty program", empty.finish(1), 0);
        dueRun("empty program", empty, TRAPPED, 0, 0);
        for (int length : LENGTHS) {
            ReorderCore x = new ReorderCore();
            emitTimes(x, length, SET, 0, 5);
            x.start(0);
            due("off the end of " + length, x.finish(200), length);
            dueRun("off the end of " + length, x, TRAPPED, length, length);
            ReorderCore y = new ReorderCore();
            y.set(0, 1);
            emitTimes(y, length, ZERO, 0, 0);
            y.start(-1);
            due("ZEROs off the end of " + length, y.finish(200), length);
            dueRun("ZEROs off the end of " + length, y, TRAPPED, length, length);
        }
    }

    /** What an earlier, longer program had at a position is not in the program. */
    private static void whatWasClearedTraps() {
        ReorderCore x = new ReorderCore();
        emitTimes(x, 16, SET, 0, 5);
        x.clear();
        x.start(0);
        due("cleared", x.finish(9), 0);
        dueRun("cleared", x, TRAPPED, 0, 0);
        x.emit(SET, 1, 6);
        x.start(0);
        due("cleared, then one", x.finish(9), 1);
        dueRun("cleared, then one", x, TRAPPED, 1, 1);
        dueRegisters("cleared, then one", x, 0, 6, 0, 0);
    }

    private static void runBeginsAtZeroWithAllAsItIs() {
        for (int state : STATES) {
            ReorderCore x = inState(state);
            String before = held(x);
            x.start(0);
            dueRun("from state " + state, x, RUNNING, 0, 0);
            due("from state " + state, held(x), before);
        }
    }

    private static ReorderCore slowBeforeQuick(int guesses) {
        ReorderCore x = new ReorderCore();
        setRegisters(x, 600, 3, 2, 7);
        x.emit(DIV, regs(0, 0, 1), 0);
        x.emit(STORE, regs(1, 2, 0), 0);
        x.emit(LOAD, regs(3, 2, 0), 0);
        x.emit(SET, regs(1, 0, 0), 5);
        x.emit(STORE, regs(1, 3, 0), 0);
        x.emit(DIV, regs(0, 0, 3), 0);
        x.emit(STORE, regs(0, 2, 0), 0);
        x.emit(LOAD, regs(2, 2, 0), 0);
        x.emit(SET, regs(3, 0, 0), 0);
        x.emit(ZERO, regs(3, 0, 0), 11);
        x.emit(SET, regs(0, 0, 0), -1);
        x.emit(HALT, 0, 0);
        x.start(guesses);
        return x;
    }

    /** The position after each instruction of slowBeforeQuick. */
    private static final int[] SLOW_POSITIONS = {1, 2, 3, 4, 5, 6, 7, 8, 9, 11, 11};
    /** The registers and cells 2 and 3 after each. */
    private static final int[][] SLOW_HELD = {{200, 3, 2, 7, 0, 0}, {200, 3, 2, 7, 3, 0}, {200, 3, 2, 3, 3, 0},
        {200, 5, 2, 3, 3, 0}, {200, 5, 2, 3, 3, 5}, {66, 5, 2, 3, 3, 5}, {66, 5, 2, 3, 66, 5}, {66, 5, 66, 3, 66, 5},
        {66, 5, 66, 0, 66, 5}, {66, 5, 66, 0, 66, 5}, {66, 5, 66, 0, 66, 5}};

    private static void finishedInOrder() {
        for (int guesses : GUESSES) {
            ReorderCore x = slowBeforeQuick(guesses);
            for (int i = 0; i < SLOW_POSITIONS.length; i++) {
                String what = "guesses " + guesses + ", after " + (i + 1);
                due(what, x.finish(1), 1);
                dueRun(what, x, i == 10 ? HALTED : RUNNING, SLOW_POSITIONS[i], i + 1);
            }
        }
    }

    /** However many are finished at once, nothing of what comes after them may be seen. */
    private static void seenIsWhatTheFinishedLeave() {
        for (int guesses : GUESSES) {
            for (int count = 1; count <= SLOW_HELD.length; count++) {
                dueHeld("guesses " + guesses + ", at once " + count, slowBeforeQuick(guesses), count, count);
            }
            ReorderCore x = slowBeforeQuick(guesses);
            for (int count = 1; count <= SLOW_HELD.length; count++) {
                dueHeld("guesses " + guesses + ", one by one " + count, x, 1, count);
            }
        }
    }

    private static void dueHeld(String what, ReorderCore x, int asked, int count) {
        int[] want = SLOW_HELD[count - 1];
        due(what, x.finish(asked), asked);
        dueRegisters(what, x, want[0], want[1], want[2], want[3]);
        dueCells(what, x, 0, 0, want[4], want[5], 0, 0, 0, 0);
    }

    /** All the ways to trap: DIV by 0, LOAD and STORE at -1, and a JUMP off the program (which is finished itself). */
    private static final int[][] TRAPS = {{DIV, 0}, {LOAD, 0}, {STORE, 0}, {JUMP, 1}};

    private static void trapIsNotFinishedAndEndsThere() {
        for (int[] trap : TRAPS) {
            for (int before = 0; before < 16; before++) {
                ReorderCore x = new ReorderCore();
                setRegisters(x, 0, -1, 0, 1);
                emitTimes(x, before, ADD, regs(0, 0, 3), 0);
                x.emit(trap[0], regs(3, 1, 2), 20);
                emitTimes(x, 15 - before, SET, regs(3, 0, 0), 77);
                x.start(0);
                String what = "trap of op " + trap[0] + " at " + before;
                due(what, x.finish(200), before + trap[1]);
                dueRun(what, x, TRAPPED, trap[1] == 1 ? 20 : before, before + trap[1]);
                dueRegisters(what, x, before, -1, 0, 1);
                dueCells(what, x, 0, 0, 0, 0, 0, 0, 0, 0);
                due(what + ": no more", x.finish(200), 0);
                dueRun(what + ": no more", x, TRAPPED, trap[1] == 1 ? 20 : before, before + trap[1]);
            }
        }
    }

    private static void haltIsFinishedAndKeepsItsPosition() {
        for (int before = 0; before < 16; before++) {
            ReorderCore x = new ReorderCore();
            x.set(1, 1);
            emitTimes(x, before, ADD, regs(0, 0, 1), 0);
            x.emit(HALT, 63, 3);
            emitTimes(x, 15 - before, SET, regs(2, 0, 0), 77);
            x.start(0);
            due("HALT at " + before, x.finish(200), before + 1);
            dueRun("HALT at " + before, x, HALTED, before, before + 1);
            dueRegisters("HALT at " + before, x, before, 1, 0, 0);
            due("after the HALT", x.finish(200), 0);
            dueRun("after the HALT", x, HALTED, before, before + 1);
            dueRegisters("after the HALT", x, before, 1, 0, 0);
        }
    }

    public static void main(String[] args) {
        sentence("An object is used for at most 512 calls", TermsSentencesTest::rightUpToCall512);
        sentence("A PROGRAM has at most 16 instructions at positions 0, 1, ..",
            TermsSentencesTest::sixteenInstructions);
        sentence("there are registers 0 .. 3 and memory cells 0 .. 7 (ints)",
            TermsSentencesTest::registersAndCellsHoldInts);
        sentence("An instruction has an operation and numbers a, b, c", TermsSentencesTest::everyRegisterInEveryPlace);
        sentence("ADD: arithmetic wraps", TermsSentencesTest::addWraps);
        sentence("MUL: arithmetic wraps", TermsSentencesTest::mulWraps);
        sentence("DIV: rounded towards 0", TermsSentencesTest::divRoundsTowardsZero);
        sentence("DIV: traps when register c is 0", TermsSentencesTest::divTrapsOnZero);
        sentence("the least int divided by -1 is the least int", TermsSentencesTest::leastByMinusOne);
        sentence("LOAD: the low three bits of register b", TermsSentencesTest::loadTakesLowBits);
        sentence("LOAD: traps when register b is negative", TermsSentencesTest::loadTrapsOnNegative);
        sentence("STORE: the low three bits of register b", TermsSentencesTest::storeTakesLowBits);
        sentence("STORE: traps when register b is negative", TermsSentencesTest::storeTrapsOnNegative);
        sentence("ZERO: when register a is 0 the program goes on at position n",
            TermsSentencesTest::zeroGoesOnAtNOnlyForZero);
        sentence("ZERO: when register a is 0 (else its n is nowhere gone to)",
            TermsSentencesTest::zeroNotTakenMayNameAnything);
        sentence("JUMP: it goes on at position n", TermsSentencesTest::jumpToEveryPosition);
        sentence("Unless said otherwise the program goes on at the next position.",
            TermsSentencesTest::nextPositionUnlessSaidOtherwise);
        sentence("A position that is not 0 .. length() - 1 traps.", TermsSentencesTest::outsideTraps);
        sentence("A position that is 0 or length() - 1 does not trap.", TermsSentencesTest::insideDoesNotTrap);
        sentence("A position that is not 0 .. length() - 1 traps (walked to).", TermsSentencesTest::walkingOffTraps);
        sentence("A position that is not 0 .. length() - 1 traps (once in the program).",
            TermsSentencesTest::whatWasClearedTraps);
        sentence("A RUN begins at position 0 with all registers and cells as they are.",
            TermsSentencesTest::runBeginsAtZeroWithAllAsItIs);
        sentence("FINISHED one after the other, in the order of the program", TermsSentencesTest::finishedInOrder);
        sentence("What can be seen at any time is what the finished instructions, carried out one by one, leave.",
            TermsSentencesTest::seenIsWhatTheFinishedLeave);
        sentence("whatever traps is not finished, and the run is TRAPPED there",
            TermsSentencesTest::trapIsNotFinishedAndEndsThere);
        sentence("A HALT is finished, and the run is HALTED, with its position that of the HALT.",
            TermsSentencesTest::haltIsFinishedAndKeepsItsPosition);
        end();
    }
}
