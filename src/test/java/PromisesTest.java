/** One method for each promise of the document: ordinary inputs, the edges it names, and wrong inputs. */
public final class PromisesTest extends TestBase {
    private static void promise1NewObject() {
        ReorderCore x = new ReorderCore();
        due("new: length", x.length(), 0);
        dueRun("new", x, IDLE, 0, 0);
        dueRegisters("new", x, 0, 0, 0, 0);
        dueCells("new", x, 0, 0, 0, 0, 0, 0, 0, 0);
        due("new: digest", x.digest(), 0);
        due("new: finish", x.finish(5), 0);
        dueRun("new, after finish", x, IDLE, 0, 0);
        ReorderCore other = new ReorderCore();
        x.set(0, 7);
        x.set(8, 7);
        x.emit(HALT, 0, 0);
        due("objects share no register", other.register(0), 0);
        due("objects share no cell", other.memory(0), 0);
        due("objects share no program", other.length(), 0);
    }

    private static void promise2Emit() {
        ReorderCore x = new ReorderCore();
        int[][] bad = {{-1, 0}, {9, 0}, {MIN, 0}, {MAX, 0}, {0, -1}, {0, 64}, {8, MIN}, {8, MAX}, {-1, 64}};
        for (int[] pair : bad) {
            due("bad emit " + pair[0] + " " + pair[1], x.emit(pair[0], pair[1], 0), BAD);
            due("bad emit appends nothing", x.length(), 0);
        }
        for (int i = 0; i < 16; i++) {
            due("emit " + i, x.emit(i % 9, i % 2 == 0 ? 63 : 0, i % 2 == 0 ? MIN : MAX), i);
        }
        due("emit when full", x.emit(SET, 0, 0), FULL);
        due("length when full", x.length(), 16);
        x.clear();
        due("emit after clear", x.emit(SET, 0, 0), 0);
    }

    private static void promise2UnusedNumbers() {
        dueRegisters("SET looks at a alone", one(SET, regs(1, 3, 3), 5, 1, 2, 3, 4), 1, 5, 3, 4);
        dueRegisters("LOAD looks at a, b", one(LOAD, regs(1, 2, 3), 9, -1, -1, 3, -1), -1, 103, 3, -1);
        dueCells("STORE looks at a, b", one(STORE, regs(1, 2, 3), 9, -1, -5, 3, -1), 100, 101, 102, -5);
        due("ZERO looks at a", one(ZERO, regs(2, 1, 1), 9, 1, 1, 0, 1).position(), 9);
        due("JUMP looks at n", one(JUMP, 63, 9, -1, -1, -1, -1).position(), 9);
        due("HALT looks at nothing", one(HALT, 63, 9, -1, -1, -1, -1).status(), HALTED);
        dueRegisters("ADD ignores n", one(ADD, regs(0, 1, 2), 77, 1, 2, 3, 4), 5, 2, 3, 4);
    }

    private static void promise2EndsRun() {
        ReorderCore x = new ReorderCore();
        x.emit(SET, 0, 5);
        x.emit(SET, 1, 6);
        x.start(0);
        due("one finished", x.finish(1), 1);
        due("emit in a run", x.emit(HALT, 0, 0), 2);
        dueRun("emit ends a run", x, IDLE, 0, 0);
        due("no run to go on", x.finish(9), 0);
        dueRegisters("what was finished stays, no more", x, 5, 0, 0, 0);
        x.start(0);
        due("all three", x.finish(9), 3);
        x.emit(HALT, 0, 0);
        dueRun("emit after HALTED", x, IDLE, 0, 0);
        x.clear();
        x.start(0);
        x.finish(1);
        x.emit(HALT, 0, 0);
        dueRun("emit after TRAPPED", x, IDLE, 0, 0);
    }

    private static void promise3Clear() {
        ReorderCore x = new ReorderCore();
        setRegisters(x, 1, 2, 3, 4);
        x.set(15, 9);
        x.emit(SET, 0, 8);
        x.emit(JUMP, 0, 0);
        x.start(0);
        x.finish(5);
        x.clear();
        due("clear: length", x.length(), 0);
        dueRun("clear", x, IDLE, 0, 0);
        dueRegisters("clear keeps registers", x, 8, 2, 3, 4);
        due("clear keeps cells", x.memory(7), 9);
        due("clear: no run", x.finish(1), 0);
        due("set after clear", x.set(0, 1), true);
        x.emit(SET, 2, 70);
        x.start(0);
        due("only the new program", x.finish(9), 1);
        dueRun("new program", x, TRAPPED, 1, 1);
        dueRegisters("new program", x, 1, 2, 70, 4);
    }

    private static void promise4Length() {
        ReorderCore x = new ReorderCore();
        for (int i = 0; i < 16; i++) {
            due("length", x.length(), i);
            x.emit(HALT, 0, 0);
        }
        due("length", x.length(), 16);
        x.start(0);
        x.finish(1);
        due("length after a run", x.length(), 16);
        x.clear();
        due("length after clear", x.length(), 0);
    }

    private static void promise5Set() {
        ReorderCore x = new ReorderCore();
        int[] wrongNumbers = {-1, 4, 5, 6, 7, 16, 17, MIN, MAX, MIN + 8, -8};
        for (int i : wrongNumbers) {
            due("set " + i, x.set(i, 99), false);
        }
        due("nothing changed", x.digest(), 0);
        for (int i = 0; i < 4; i++) {
            due("set " + i, x.set(i, 10 + i), true);
        }
        for (int i = 8; i < 16; i++) {
            due("set " + i, x.set(i, 10 + i), true);
        }
        dueRegisters("set", x, 10, 11, 12, 13);
        dueCells("set", x, 18, 19, 20, 21, 22, 23, 24, 25);
        x.emit(SET, 0, 1);
        x.start(0);
        due("set while RUNNING", x.set(0, 5), false);
        due("set cell while RUNNING", x.set(8, 5), false);
        dueRegisters("set while RUNNING", x, 10, 11, 12, 13);
        due("set while RUNNING: cell", x.memory(0), 18);
        x.finish(2);
        due("TRAPPED", x.status(), TRAPPED);
        due("set while TRAPPED", x.set(0, MIN), true);
        due("set while TRAPPED", x.register(0), MIN);
        dueRun("set leaves the run", x, TRAPPED, 1, 1);
        x.emit(HALT, 0, 0);
        x.start(0);
        x.finish(2);
        due("set while HALTED", x.set(15, MAX), true);
        due("set while HALTED", x.memory(7), MAX);
        dueRun("set leaves the run", x, HALTED, 1, 2);
    }

    private static void promise6Start() {
        ReorderCore x = new ReorderCore();
        x.start(0);
        dueRun("empty program", x, RUNNING, 0, 0);
        due("empty program", x.finish(1), 0);
        dueRun("empty program", x, TRAPPED, 0, 0);
        x.emit(SET, 0, 1);
        x.emit(ADD, regs(1, 1, 0), 0);
        x.emit(JUMP, 0, 1);
        x.start(0);
        due("first run", x.finish(6), 6);
        x.start(0);
        dueRun("started anew", x, RUNNING, 0, 0);
        dueRegisters("registers as they were", x, 1, 3, 0, 0);
        due("second run", x.finish(4), 4);
        dueRun("second run", x, RUNNING, 2, 4);
        dueRegisters("goes on from the registers", x, 1, 5, 0, 0);
    }

    /** Wrong guesses lead through traps, stores, a HALT and off the program; none of it may be seen. */
    private static void promise6GuessesUnseen() {
        for (int guesses : GUESSES) {
            for (int value = -1; value <= 1; value++) {
                ReorderCore x = new ReorderCore();
                setRegisters(x, value, -1, 7, 3);
                x.emit(MUL, regs(0, 0, 3), 0);
                x.emit(MUL, regs(0, 0, 3), 0);
                x.emit(ZERO, regs(0, 0, 0), 6);
                x.emit(STORE, regs(2, 3, 0), 0);
                x.emit(SET, regs(2, 0, 0), 50);
                x.emit(HALT, 0, 0);
                x.emit(STORE, regs(3, 2, 0), 0);
                x.emit(SET, regs(3, 0, 0), 60);
                x.emit(ZERO, regs(3, 0, 0), -7);
                x.emit(LOAD, regs(2, 1, 0), 0);
                x.start(guesses);
                String what = "guesses " + guesses + ", value " + value;
                if (value == 0) {
                    due(what, x.finish(200), 6);
                    dueRun(what, x, TRAPPED, 9, 6);
                    dueRegisters(what, x, 0, -1, 7, 60);
                    dueCells(what, x, 0, 0, 0, 0, 0, 0, 0, 3);
                } else {
                    due(what, x.finish(200), 6);
                    dueRun(what, x, HALTED, 5, 6);
                    dueRegisters(what, x, 9 * value, -1, 50, 3);
                    dueCells(what, x, 0, 0, 0, 7, 0, 0, 0, 0);
                }
            }
        }
    }

    private static void promise7Finish() {
        ReorderCore x = new ReorderCore();
        x.emit(JUMP, 0, 0);
        x.start(0);
        int[][] asked = {{0, 0}, {-1, 0}, {MIN, 0}, {1, 1}, {199, 199}, {200, 200}, {201, 200}, {MAX, 200}};
        int sum = 0;
        for (int[] pair : asked) {
            due("finish " + pair[0], x.finish(pair[0]), pair[1]);
            sum += pair[1];
            dueRun("finish " + pair[0], x, RUNNING, 0, sum);
        }
        x.clear();
        x.start(0);
        due("finish(0) before a trap", x.finish(0), 0);
        due("finish(-3) before a trap", x.finish(-3), 0);
        dueRun("nothing changed", x, RUNNING, 0, 0);
        x.emit(SET, 0, 4);
        x.emit(DIV, regs(1, 0, 2), 0);
        x.start(0);
        due("one before the trap", x.finish(1), 1);
        dueRun("still RUNNING", x, RUNNING, 1, 1);
        due("nothing asked", x.finish(0), 0);
        dueRun("still RUNNING", x, RUNNING, 1, 1);
        due("the trap", x.finish(1), 0);
        dueRun("TRAPPED", x, TRAPPED, 1, 1);
        due("after the trap", x.finish(1), 0);
        x.emit(HALT, 0, 0);
        x.set(2, 2);
        x.start(0);
        due("up to the HALT", x.finish(2), 2);
        dueRun("before the HALT", x, RUNNING, 2, 2);
        due("the HALT", x.finish(5), 1);
        dueRun("HALTED", x, HALTED, 2, 3);
        due("after the HALT", x.finish(5), 0);
    }

    private static void promise7ArithmeticWraps() {
        int bc = regs(0, 1, 2);
        due("ADD", one(ADD, bc, 0, 9, MAX, 1, 0).register(0), MIN);
        due("ADD", one(ADD, bc, 0, 9, -4, 3, 0).register(0), -1);
        due("ADD to itself", one(ADD, regs(0, 0, 0), 0, 9, 0, 0, 0).register(0), 18);
        due("MUL", one(MUL, bc, 0, 9, 65536, 65536, 0).register(0), 0);
        due("MUL", one(MUL, bc, 0, 9, MIN, -1, 0).register(0), MIN);
        due("MUL", one(MUL, bc, 0, 9, -6, 7, 0).register(0), -42);
        int[][] quotients = {{7, 2, 3}, {-7, 2, -3}, {7, -2, -3}, {-7, -2, 3}, {MIN, -1, MIN}, {MIN, 1, MIN},
            {MIN, MIN, 1}, {MAX, MIN, 0}, {0, 5, 0}, {1, 2, 0}, {-1, 2, 0}};
        for (int[] q : quotients) {
            due("DIV " + q[0] + " " + q[1], one(DIV, bc, 0, 9, q[0], q[1], 0).register(0), q[2]);
        }
        due("SET", one(SET, 0, MIN, 9, 0, 0, 0).register(0), MIN);
    }

    private static void promise7Traps() {
        int[][] trapping = {{DIV, regs(0, 1, 2), 5, 0}, {DIV, regs(0, 1, 2), 0, 0}, {LOAD, regs(0, 1, 0), -1, 0},
            {LOAD, regs(0, 1, 0), MIN, 0}, {STORE, regs(0, 1, 0), -1, 0}, {STORE, regs(0, 1, 0), MIN, 0}};
        for (int[] t : trapping) {
            ReorderCore x = one(t[0], t[1], 0, 9, t[2], t[3], 0);
            String what = "op " + t[0] + " on " + t[2];
            dueRun(what, x, TRAPPED, 0, 0);
            dueRegisters(what, x, 9, t[2], t[3], 0);
            dueCells(what, x, 100, 101, 102, 103, 104, 105, 106, 107);
        }
        due("LOAD takes the low bits", one(LOAD, regs(0, 1, 0), 0, 9, MAX, 0, 0).register(0), 107);
        due("LOAD takes the low bits", one(LOAD, regs(0, 1, 0), 0, 9, 8, 0, 0).register(0), 100);
        due("LOAD over its own address", one(LOAD, regs(1, 1, 0), 0, 9, 12, 0, 0).register(1), 104);
        due("STORE takes the low bits", one(STORE, regs(0, 1, 0), 0, 9, 13, 0, 0).memory(5), 9);
        due("STORE of its own address", one(STORE, regs(1, 1, 0), 0, 9, MAX, 0, 0).memory(7), MAX);
    }

    /** A load that is quicker than the store before it must still read what was stored. */
    private static void promise7MemoryOrder() {
        for (int guesses : GUESSES) {
            ReorderCore x = new ReorderCore();
            setRegisters(x, 60, 2, 5, 0);
            x.set(13, -9);
            x.emit(DIV, regs(3, 0, 1), 0);
            x.emit(STORE, regs(3, 2, 0), 0);
            x.emit(DIV, regs(3, 3, 1), 0);
            x.emit(STORE, regs(3, 2, 0), 0);
            x.emit(LOAD, regs(0, 2, 0), 0);
            x.emit(SET, regs(3, 0, 0), 1);
            x.emit(STORE, regs(3, 2, 0), 0);
            x.emit(LOAD, regs(1, 2, 0), 0);
            x.emit(HALT, 0, 0);
            x.start(guesses);
            int[] cell5 = {-9, 30, 30, 15, 15, 15, 1, 1, 1};
            for (int i = 0; i < 9; i++) {
                due("memory order: step", x.finish(1), 1);
                due("memory order: cell 5 after " + i, x.memory(5), cell5[i]);
            }
            dueRegisters("memory order", x, 15, 1, 5, 1);
            due("memory order: status", x.status(), HALTED);
        }
    }

    private static void promise8Status() {
        ReorderCore x = new ReorderCore();
        due("IDLE", x.status(), IDLE);
        x.emit(JUMP, 0, 1);
        due("IDLE", x.status(), IDLE);
        x.start(0);
        due("RUNNING", x.status(), RUNNING);
        x.finish(1);
        due("RUNNING past the end", x.status(), RUNNING);
        x.finish(1);
        due("TRAPPED", x.status(), TRAPPED);
        x.emit(HALT, 0, 0);
        x.start(0);
        x.finish(2);
        due("HALTED", x.status(), HALTED);
        x.start(0);
        due("RUNNING again", x.status(), RUNNING);
        x.clear();
        due("IDLE again", x.status(), IDLE);
    }

    private static void promise9Position() {
        int[] outside = {-1, 1, 2, 15, 16, 17, MIN, MAX};
        for (int target : outside) {
            for (int guesses : GUESSES) {
                for (int op = ZERO; op <= JUMP; op++) {
                    ReorderCore x = new ReorderCore();
                    x.emit(op, 0, target);
                    x.start(guesses);
                    due("to " + target, x.finish(1), 1);
                    dueRun("to " + target, x, RUNNING, target, 1);
                    due("to " + target, x.finish(1), 0);
                    dueRun("to " + target, x, TRAPPED, target, 1);
                    x.clear();
                    due("position when IDLE", x.position(), 0);
                }
            }
        }
        ReorderCore x = new ReorderCore();
        for (int i = 0; i < 16; i++) {
            x.emit(SET, 0, i);
        }
        x.start(-1);
        for (int i = 0; i < 16; i++) {
            due("position", x.position(), i);
            x.finish(1);
        }
        dueRun("past the last", x, RUNNING, 16, 16);
        x.finish(1);
        dueRun("past the last", x, TRAPPED, 16, 16);
        x.start(0);
        x.finish(3);
        due("FULL leaves the position", x.emit(SET, 0, 0), FULL);
        due("position", x.position(), 3);
    }

    private static void promise10Finished() {
        ReorderCore x = new ReorderCore();
        x.emit(SET, 0, 1);
        x.emit(ZERO, 0, 0);
        x.emit(ZERO, 1, 4);
        x.emit(DIV, 0, 0);
        x.emit(HALT, 0, 0);
        x.start(2);
        due("finished", x.finished(), 0);
        for (int i = 1; i <= 4; i++) {
            x.finish(1);
            due("finished", x.finished(), i);
        }
        x.finish(1);
        dueRun("a HALT counts", x, HALTED, 4, 4);
        x.start(2);
        due("finished since the start", x.finished(), 0);
        x.finish(2);
        due("finished since the start", x.finished(), 2);
        x.clear();
        due("finished when IDLE", x.finished(), 0);
    }

    private static void promise11Register() {
        ReorderCore x = new ReorderCore();
        setRegisters(x, 1, MIN, MAX, -4);
        for (int i = 8; i < 16; i++) {
            x.set(i, 50);
        }
        dueRegisters("register", x, 1, MIN, MAX, -4);
        int[] wrongNumbers = {-1, 4, 5, 8, 15, MIN, MAX};
        for (int i : wrongNumbers) {
            due("register " + i, x.register(i), 0);
        }
    }

    private static void promise11RegisterOrder() {
        for (int guesses : GUESSES) {
            ReorderCore x = new ReorderCore();
            setRegisters(x, 100, 5, 2, 0);
            x.emit(DIV, regs(0, 0, 1), 0);
            x.emit(SET, regs(1, 0, 0), 3);
            x.emit(ADD, regs(3, 0, 1), 0);
            x.emit(SET, regs(0, 0, 0), 1);
            x.emit(MUL, regs(3, 3, 0), 0);
            x.emit(ADD, regs(0, 3, 3), 0);
            x.start(guesses);
            int[][] after = {{20, 5, 2, 0}, {20, 3, 2, 0}, {20, 3, 2, 23}, {1, 3, 2, 23}, {1, 3, 2, 23},
                {46, 3, 2, 23}};
            for (int[] want : after) {
                x.finish(1);
                dueRegisters("after " + x.finished(), x, want);
            }
        }
    }

    private static void promise12Memory() {
        ReorderCore x = new ReorderCore();
        setRegisters(x, 50, 50, 50, 50);
        for (int i = 0; i < 8; i++) {
            x.set(8 + i, i - 3);
        }
        dueCells("memory", x, -3, -2, -1, 0, 1, 2, 3, 4);
        int[] wrongNumbers = {-1, 8, 9, 15, MIN, MAX};
        for (int i : wrongNumbers) {
            due("memory " + i, x.memory(i), 0);
        }
    }

    private static void promise13Digest() {
        for (int i = 0; i < 16; i++) {
            if (i >= 4 && i < 8) {
                continue;
            }
            ReorderCore x = new ReorderCore();
            int weight = i < 4 ? i + 1 : i - 8 + 5;
            x.set(i, 1);
            due("weight of " + i, x.digest(), weight);
            x.set(i, -1);
            due("weight of " + i, x.digest(), -weight);
            x.set(i, MAX);
            due("wrapping " + i, x.digest(), (int) ((long) MAX * weight));
        }
        ReorderCore x = new ReorderCore();
        long sum = 0;
        for (int i = 0; i < 4; i++) {
            x.set(i, MAX - i);
            sum += (long) (MAX - i) * (i + 1);
        }
        for (int i = 0; i < 8; i++) {
            x.set(8 + i, MIN + 3 * i);
            sum += (long) (MIN + 3 * i) * (i + 5);
        }
        due("wrapping sum", x.digest(), (int) sum);
        x.emit(SET, 0, 7);
        x.start(0);
        due("what is not finished is not summed", x.digest(), (int) sum);
        x.finish(1);
        due("what is finished is summed", x.digest(), (int) (sum - MAX + 7));
    }

    private static void promise14OrderAndLimits() {
        ReorderCore x = new ReorderCore();
        for (int i = 0; i < 15; i++) {
            x.emit(ADD, regs(0, 0, 1), 0);
        }
        x.emit(JUMP, 0, 0);
        x.set(1, 1);
        x.start(0);
        x.finish(5);
        int[][] refused = {{9, 0, BAD}, {-1, 0, BAD}, {0, 64, BAD},
            {0, -1, BAD}, {0, 0, FULL}, {8, 63, FULL}};
        for (int[] r : refused) {
            due("refused emit " + r[0] + " " + r[1], x.emit(r[0], r[1], 9), r[2]);
            due("length", x.length(), 16);
            dueRun("refused emit", x, RUNNING, 5, 5);
        }
        due("the run goes on", x.finish(12), 12);
        dueRun("the run goes on", x, RUNNING, 1, 17);
        dueRegisters("the run goes on", x, 16, 1, 0, 0);
        int[] numbers = {-1, 0, 3, 4, 7, 8, 15, 16, MIN, MAX};
        for (int i : numbers) {
            due("set while RUNNING " + i, x.set(i, 77), false);
        }
        dueRegisters("set while RUNNING", x, 16, 1, 0, 0);
        dueCells("set while RUNNING", x, 0, 0, 0, 0, 0, 0, 0, 0);
        x.clear();
        x.emit(HALT, 0, 0);
        x.start(0);
        x.finish(1);
        due("BAD after HALTED", x.emit(9, 0, 0), BAD);
        dueRun("BAD after HALTED", x, HALTED, 0, 1);
    }

    public static void main(String[] args) {
        promise1NewObject();
        promise2Emit();
        promise2UnusedNumbers();
        promise2EndsRun();
        promise3Clear();
        promise4Length();
        promise5Set();
        promise6Start();
        promise6GuessesUnseen();
        promise7Finish();
        promise7ArithmeticWraps();
        promise7Traps();
        promise7MemoryOrder();
        promise8Status();
        promise9Position();
        promise10Finished();
        promise11Register();
        promise11RegisterOrder();
        promise12Memory();
        promise13Digest();
        promise14OrderAndLimits();
        end();
    }
}
