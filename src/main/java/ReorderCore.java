/**
 * A small processor that carries instructions out of their order, and shows nothing of it.
 *
 * Instructions are fetched along the guessed path into a window, oldest first. Each is carried out as soon as what
 * it reads is known, and keeps its result in the window. Only the oldest one may leave the window, and only then
 * does its result reach the registers, the cells or the status: so nothing that ran early, or on a wrong guess, is
 * ever seen.
 */
public final class ReorderCore {
    public static final int BAD = -1;
    public static final int FULL = -2;
    public static final int IDLE = 0;
    public static final int RUNNING = 1;
    public static final int HALTED = 2;
    public static final int TRAPPED = 3;

    private static final int OP_SET = 0;
    private static final int OP_ADD = 1;
    private static final int OP_MUL = 2;
    private static final int OP_DIV = 3;
    private static final int OP_LOAD = 4;
    private static final int OP_STORE = 5;
    private static final int OP_ZERO = 6;
    private static final int OP_JUMP = 7;
    private static final int OP_HALT = 8;
    /** Stands in the window for a position outside the program. */
    private static final int OP_NOWHERE = 9;

    private static final int PROGRAM_SIZE = 16;
    private static final int REGISTER_COUNT = 4;
    private static final int CELL_COUNT = 8;
    private static final int FIRST_CELL_NUMBER = 8;
    private static final int REGISTER_MASK = 3;
    private static final int CELL_MASK = 7;
    private static final int MOST_REGS = 63;
    private static final int FIRST_REGISTER_WEIGHT = 1;
    private static final int FIRST_CELL_WEIGHT = 5;
    private static final int MOST_FINISHED = 200;

    private static final int WINDOW_SIZE = 8;
    private static final int FETCHES_PER_BEAT = 2;
    /** An instruction leaves the window within ten beats of becoming the oldest, so 200 need far fewer than this. */
    private static final int MOST_BEATS = 1000000;

    private static final int WAITING = 0;
    private static final int DONE = 1;
    private static final int TRAPS = 2;

    private static final int NONE = -1;

    private final int[] programOp = new int[PROGRAM_SIZE];
    private final int[] programRegs = new int[PROGRAM_SIZE];
    private final int[] programNumber = new int[PROGRAM_SIZE];
    private int programLength = 0;

    private final int[] registers = new int[REGISTER_COUNT];
    private final int[] cells = new int[CELL_COUNT];

    private int runStatus = IDLE;
    private int runPosition = 0;
    private int finishedCount = 0;
    private int zeroGuesses = 0;

    /* The window: entry 0 is the oldest instruction that is not finished. */
    private final int[] entryOp = new int[WINDOW_SIZE];
    private final int[] entryNumber = new int[WINDOW_SIZE];
    private final int[] entryPosition = new int[WINDOW_SIZE];
    private final int[] entryWrites = new int[WINDOW_SIZE];
    private final int[] entryReads = new int[WINDOW_SIZE];
    private final int[] entryAlsoReads = new int[WINDOW_SIZE];
    private final int[] entryState = new int[WINDOW_SIZE];
    private final int[] entryBeats = new int[WINDOW_SIZE];
    private final int[] entryResult = new int[WINDOW_SIZE];
    private final int[] entryCell = new int[WINDOW_SIZE];
    private final int[] entryNext = new int[WINDOW_SIZE];
    private int windowLength = 0;
    private int fetchPosition = 0;
    private boolean fetching = false;

    public ReorderCore() {
    }

    public int emit(int op, int regs, int n) {
        if (op < OP_SET || op > OP_HALT || regs < 0 || regs > MOST_REGS) {
            return BAD;
        }
        if (programLength >= PROGRAM_SIZE) {
            return FULL;
        }
        int at = programLength;
        programOp[at] = op;
        programRegs[at] = regs;
        programNumber[at] = n;
        programLength = at + 1;
        resetRun(IDLE);
        return at;
    }

    public void clear() {
        programLength = 0;
        resetRun(IDLE);
    }

    public int length() {
        return programLength;
    }

    public boolean set(int i, int v) {
        if (runStatus == RUNNING) {
            return false;
        }
        if (i >= 0 && i < REGISTER_COUNT) {
            registers[i] = v;
            return true;
        }
        if (i >= FIRST_CELL_NUMBER && i < FIRST_CELL_NUMBER + CELL_COUNT) {
            cells[i - FIRST_CELL_NUMBER] = v;
            return true;
        }
        return false;
    }

    public void start(int guesses) {
        zeroGuesses = guesses;
        resetRun(RUNNING);
    }

    public int finish(int n) {
        int wanted = n > MOST_FINISHED ? MOST_FINISHED : n;
        int before = finishedCount;
        for (int beat = 0; beat < MOST_BEATS; beat++) {
            if (runStatus != RUNNING || finishedCount - before >= wanted) {
                break;
            }
            fetchSome();
            carryOutReady();
            finishOldest();
        }
        return finishedCount - before;
    }

    public int status() {
        return runStatus;
    }

    public int position() {
        return runPosition;
    }

    public int finished() {
        return finishedCount;
    }

    public int register(int i) {
        return i >= 0 && i < REGISTER_COUNT ? registers[i] : 0;
    }

    public int memory(int i) {
        return i >= 0 && i < CELL_COUNT ? cells[i] : 0;
    }

    public int digest() {
        int sum = 0;
        for (int i = 0; i < REGISTER_COUNT; i++) {
            sum += registers[i] * (i + FIRST_REGISTER_WEIGHT);
        }
        for (int i = 0; i < CELL_COUNT; i++) {
            sum += cells[i] * (i + FIRST_CELL_WEIGHT);
        }
        return sum;
    }

    private void resetRun(int newStatus) {
        runStatus = newStatus;
        runPosition = 0;
        finishedCount = 0;
        windowLength = 0;
        fetchPosition = 0;
        fetching = true;
    }

    private void fetchSome() {
        for (int i = 0; i < FETCHES_PER_BEAT; i++) {
            if (fetching && windowLength < WINDOW_SIZE) {
                fetchInto(windowLength);
                windowLength++;
            }
        }
    }

    private void fetchInto(int e) {
        entryPosition[e] = fetchPosition;
        entryResult[e] = 0;
        entryCell[e] = 0;
        if (fetchPosition < 0 || fetchPosition >= programLength) {
            decode(e, OP_NOWHERE, 0);
            // The path may be a wrong guess: the trap counts only if this entry becomes the oldest.
            entryState[e] = TRAPS;
            fetching = false;
            return;
        }
        int op = programOp[fetchPosition];
        entryNumber[e] = programNumber[fetchPosition];
        decode(e, op, programRegs[fetchPosition]);
        entryState[e] = WAITING;
        entryBeats[e] = beatsOf(op);
        entryNext[e] = expectedNext(e);
        fetchPosition = entryNext[e];
        fetching = op != OP_HALT;
    }

    private void decode(int e, int op, int regs) {
        int a = regs & REGISTER_MASK;
        int b = regs >> 2 & REGISTER_MASK;
        int c = regs >> 4 & REGISTER_MASK;
        entryOp[e] = op;
        entryWrites[e] = op <= OP_LOAD ? a : NONE;
        entryReads[e] = NONE;
        entryAlsoReads[e] = NONE;
        if (op >= OP_ADD && op <= OP_STORE) {
            entryReads[e] = b;
        }
        if (op == OP_ZERO) {
            entryReads[e] = a;
        }
        if (op >= OP_ADD && op <= OP_DIV) {
            entryAlsoReads[e] = c;
        }
        if (op == OP_STORE) {
            entryAlsoReads[e] = a;
        }
    }

    /** Unequal times let a short instruction overtake a long one that stands before it. */
    private static int beatsOf(int op) {
        switch (op) {
            case OP_MUL:
                return 3;
            case OP_DIV:
                return 6;
            case OP_LOAD:
                return 2;
            default:
                return 1;
        }
    }

    private int expectedNext(int e) {
        int op = entryOp[e];
        int at = entryPosition[e];
        boolean guessed = op == OP_ZERO && (zeroGuesses >> at & 1) == 1;
        return op == OP_JUMP || guessed ? entryNumber[e] : at + 1;
    }

    private void carryOutReady() {
        // Youngest first, so that a result of this beat is read in the next one and not before.
        for (int e = WINDOW_SIZE - 1; e >= 0; e--) {
            if (e < windowLength && entryState[e] == WAITING && isReady(e)) {
                entryBeats[e]--;
                if (entryBeats[e] <= 0) {
                    carryOut(e);
                }
            }
        }
    }

    private boolean isReady(int e) {
        if (!isKnown(e, entryReads[e]) || !isKnown(e, entryAlsoReads[e])) {
            return false;
        }
        return entryOp[e] != OP_LOAD || areStoresDoneBefore(e);
    }

    private boolean isKnown(int e, int r) {
        int writer = writerBefore(e, r);
        return writer == NONE || entryState[writer] == DONE;
    }

    /** The nearest older entry that writes register r, or NONE when the register itself has the value. */
    private int writerBefore(int e, int r) {
        if (r == NONE) {
            return NONE;
        }
        for (int older = e - 1; older >= 0; older--) {
            if (entryWrites[older] == r) {
                return older;
            }
        }
        return NONE;
    }

    private boolean areStoresDoneBefore(int e) {
        for (int older = e - 1; older >= 0; older--) {
            if (entryOp[older] == OP_STORE && entryState[older] != DONE) {
                return false;
            }
        }
        return true;
    }

    private int valueFor(int e, int r) {
        if (r == NONE) {
            return 0;
        }
        int writer = writerBefore(e, r);
        return writer == NONE ? registers[r] : entryResult[writer];
    }

    private void carryOut(int e) {
        int value = valueFor(e, entryReads[e]);
        int also = valueFor(e, entryAlsoReads[e]);
        entryState[e] = DONE;
        switch (entryOp[e]) {
            case OP_SET:
                entryResult[e] = entryNumber[e];
                break;
            case OP_ADD:
                entryResult[e] = value + also;
                break;
            case OP_MUL:
                entryResult[e] = value * also;
                break;
            case OP_DIV:
                divide(e, value, also);
                break;
            case OP_LOAD:
                load(e, value);
                break;
            case OP_STORE:
                store(e, value, also);
                break;
            case OP_ZERO:
                settleGuess(e, value);
                break;
            default:
                break;
        }
    }

    private void divide(int e, int dividend, int divisor) {
        if (divisor == 0) {
            entryState[e] = TRAPS;
            return;
        }
        entryResult[e] = dividend / divisor;
    }

    private void load(int e, int address) {
        if (address < 0) {
            entryState[e] = TRAPS;
            return;
        }
        entryResult[e] = cellFor(e, address & CELL_MASK);
    }

    /** An older store that has not left the window has a newer value than the cell. */
    private int cellFor(int e, int cell) {
        for (int older = e - 1; older >= 0; older--) {
            if (entryOp[older] == OP_STORE && entryCell[older] == cell) {
                return entryResult[older];
            }
        }
        return cells[cell];
    }

    private void store(int e, int address, int value) {
        if (address < 0) {
            entryState[e] = TRAPS;
            return;
        }
        entryCell[e] = address & CELL_MASK;
        entryResult[e] = value;
    }

    private void settleGuess(int e, int value) {
        int next = value == 0 ? entryNumber[e] : entryPosition[e] + 1;
        if (next != entryNext[e]) {
            entryNext[e] = next;
            windowLength = e + 1;
            fetchPosition = next;
            fetching = true;
        }
    }

    private void finishOldest() {
        if (windowLength == 0 || entryState[0] == WAITING) {
            return;
        }
        if (entryState[0] == TRAPS) {
            endRun(TRAPPED);
            return;
        }
        finishedCount++;
        if (entryOp[0] == OP_HALT) {
            endRun(HALTED);
            return;
        }
        if (entryWrites[0] != NONE) {
            registers[entryWrites[0]] = entryResult[0];
        }
        if (entryOp[0] == OP_STORE) {
            cells[entryCell[0]] = entryResult[0];
        }
        runPosition = entryNext[0];
        dropOldest();
    }

    private void endRun(int newStatus) {
        runStatus = newStatus;
        windowLength = 0;
    }

    private void dropOldest() {
        for (int e = 1; e < windowLength; e++) {
            entryOp[e - 1] = entryOp[e];
            entryNumber[e - 1] = entryNumber[e];
            entryPosition[e - 1] = entryPosition[e];
            entryWrites[e - 1] = entryWrites[e];
            entryReads[e - 1] = entryReads[e];
            entryAlsoReads[e - 1] = entryAlsoReads[e];
            entryState[e - 1] = entryState[e];
            entryBeats[e - 1] = entryBeats[e];
            entryResult[e - 1] = entryResult[e];
            entryCell[e - 1] = entryCell[e];
            entryNext[e - 1] = entryNext[e];
        }
        windowLength--;
    }
}
