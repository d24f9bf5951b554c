/** What the tests of the document's promises and sentences share. */
abstract class TestBase {
    static final int SET = 0;
    static final int ADD = 1;
    static final int MUL = 2;
    static final int DIV = 3;
    static final int LOAD = 4;
    static final int STORE = 5;
    static final int ZERO = 6;
    static final int JUMP = 7;
    static final int HALT = 8;
    static final int BAD = ReorderCore.BAD;
    static final int FULL = ReorderCore.FULL;
    static final int IDLE = ReorderCore.IDLE;
    static final int RUNNING = ReorderCore.RUNNING;
    static final int HALTED = ReorderCore.HALTED;
    static final int TRAPPED = ReorderCore.TRAPPED;
    static final int MIN = Integer.MIN_VALUE;
    static final int MAX = Integer.MAX_VALUE;
    /** Ways to guess: never, always, and some in between. */
    static final int[] GUESSES = {0, -1, 1, 2, 0x5555, 0xAAAA, 0xFFFF0000, MIN, MAX};
    /** Every state a run can be in: looked at where a sentence holds in all of them, or in all but one. */
    static final int[] STATES = {IDLE, RUNNING, HALTED, TRAPPED};

    private static String sentence = "";
    private static int sentences = 0;
    private static int wrong = 0;

    /** Names the sentence of the document that the checks in the test are about. */
    static void sentence(String words, Runnable test) {
        sentence = words + "\n    ";
        sentences++;
        test.run();
        sentence = "";
    }

    static void due(String what, long got, long want) {
        if (got != want) {
            wrong++;
            System.out.println(sentence + what + ": answered " + got + ", due is " + want);
        }
    }

    static void due(String what, boolean got, boolean want) {
        due(what, got ? 1 : 0, want ? 1 : 0);
    }

    static void due(String what, String got, String want) {
        if (!got.equals(want)) {
            wrong++;
            System.out.println(sentence + what + ":\n    seen   " + got + "\n    due is " + want);
        }
    }

    static void dueRun(String what, ReorderCore x, int status, int position, int finished) {
        due(what + ": status", x.status(), status);
        due(what + ": position", x.position(), position);
        due(what + ": finished", x.finished(), finished);
    }

    static void dueRegisters(String what, ReorderCore x, int... want) {
        for (int i = 0; i < want.length; i++) {
            due(what + ": register " + i, x.register(i), want[i]);
        }
    }

    static void dueCells(String what, ReorderCore x, int... want) {
        for (int i = 0; i < want.length; i++) {
            due(what + ": cell " + i, x.memory(i), want[i]);
        }
    }

    static int regs(int a, int b, int c) {
        return a + 4 * b + 16 * c;
    }

    static void setRegisters(ReorderCore x, int... values) {
        for (int i = 0; i < values.length; i++) {
            due("set register " + i, x.set(i, values[i]), true);
        }
    }

    /** Cell i becomes 100 + i, so that each can be told from the others. */
    static void markCells(ReorderCore x) {
        for (int i = 0; i < 8; i++) {
            due("set cell " + i, x.set(8 + i, 100 + i), true);
        }
    }

    static void emitTimes(ReorderCore x, int times, int op, int regs, int n) {
        for (int i = 0; i < times; i++) {
            x.emit(op, regs, n);
        }
    }

    /** One instruction on the given registers, finished or trapped; then the object is handed back for a look. */
    static ReorderCore one(int op, int regs, int n, int... registers) {
        ReorderCore x = new ReorderCore();
        setRegisters(x, registers);
        markCells(x);
        x.emit(op, regs, n);
        x.start(0);
        due("op " + op + ": ended", x.finish(1) == 1 || x.status() == TRAPPED, true);
        return x;
    }

    /**
     * An object in the given state, its registers and cells set, with a program of two: it is RUNNING after one
     * instruction, HALTED or TRAPPED at position 1.
     */
    static ReorderCore inState(int state) {
        ReorderCore x = new ReorderCore();
        setRegisters(x, 1, 2, 3, 0);
        markCells(x);
        x.emit(ADD, regs(0, 0, 1), 0);
        if (state == TRAPPED) {
            x.emit(DIV, regs(0, 0, 3), 0);
        } else {
            x.emit(HALT, 0, 0);
        }
        if (state != IDLE) {
            x.start(0);
            x.finish(state == RUNNING ? 1 : 2);
        }
        due("made state", x.status(), state);
        return x;
    }

    /** All that can be seen of an object, by seventeen calls. */
    static String seen(ReorderCore x) {
        StringBuilder all = new StringBuilder();
        all.append("length ").append(x.length()).append(", status ").append(x.status());
        all.append(", position ").append(x.position()).append(", finished ").append(x.finished());
        all.append(", ").append(held(x));
        return all.toString();
    }

    /** The registers, the cells and their digest. */
    static String held(ReorderCore x) {
        StringBuilder all = new StringBuilder("registers");
        for (int i = 0; i < 4; i++) {
            all.append(' ').append(x.register(i));
        }
        all.append(", cells");
        for (int i = 0; i < 8; i++) {
            all.append(' ').append(x.memory(i));
        }
        return all.append(", digest ").append(x.digest()).toString();
    }

    static void end() {
        String count = sentences == 0 ? "" : sentences + " sentences: ";
        System.out.println(count + (wrong == 0 ? "all answers are as due" : wrong + " answers are not as due"));
        if (wrong != 0) {
            System.exit(1);
        }
    }
}
