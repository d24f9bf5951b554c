/** A small processor; this plainest form carries instructions out one by one. */
public final class ReorderCore {
    public static final int BAD = -1;
    public static final int FULL = -2;
    public static final int IDLE = 0;
    public static final int RUNNING = 1;
    public static final int HALTED = 2;
    public static final int TRAPPED = 3;

    private static final int OP_SET = 0;
    private static final int OP_ADD = 1;
    private static final int OP_MUL = 2;
    private static final int OP_DIV = 3;
    private static final int OP_LOAD = 4;
    private static final int OP_STORE = 5;
    private static final int OP_ZERO = 6;
    private static final int OP_JUMP = 7;
    private static final int OP_HALT = 8;

    private static final int PROGRAM_SIZE = 16;
    private static final int REGISTER_COUNT = 4;
    private static final int CELL_COUNT = 8;
    private static final int FIRST_CELL_NUMBER = 8;
    private static final int MOST_REGS = 63;
    private static final int MOST_FINISHED = 200;

    private final int[] programOp = new int[PROGRAM_SIZE];
    private final int[] programRegs = new int[PROGRAM_SIZE];
    private final int[] programNumber = new int[PROGRAM_SIZE];
    private final int[] registers = new int[REGISTER_COUNT];
    private final int[] cells = new int[CELL_COUNT];
    private int programLength = 0;
    private int runStatus = IDLE;
    private int runPosition = 0;
    private int finishedCount = 0;

    public ReorderCore() {
    }

    public int emit(int op, int regs, int n) {
        if (op < OP_SET || op > OP_HALT || regs < 0 || regs > MOST_REGS) {
            return BAD;
        }
        if (programLength >= PROGRAM_SIZE) {
            return FULL;
        }
        int at = programLength;
        programOp[at] = op;
        programRegs[at] = regs;
        programNumber[at] = n;
        programLength = at + 1;
        beginAt0(IDLE);
        return at;
    }

    public void clear() {
        programLength = 0;
        beginAt0(IDLE);
    }

    public int length() {
        return programLength;
    }

    public boolean set(int i, int v) {
        if (runStatus == RUNNING) {
            return false;
        }
        if (i >= 0 && i < REGISTER_COUNT) {
            registers[i] = v;
            return true;
        }
        if (i >= FIRST_CELL_NUMBER && i < FIRST_CELL_NUMBER + CELL_COUNT) {
            cells[i - FIRST_CELL_NUMBER] = v;
            return true;
        }
        return false;
    }

    public void start(int guesses) {
        beginAt0(RUNNING);
    }

    public int finish(int n) {
        int wanted = n > MOST_FINISHED ? MOST_FINISHED : n;
        int before = finishedCount;
        for (int i = 0; i < wanted && runStatus == RUNNING; i++) {
            step();
        }
        return finishedCount - before;
    }

    public int status() {
        return runStatus;
    }

    public int position() {
        return runPosition;
    }

    public int finished() {
        return finishedCount;
    }

    public int register(int i) {
        return i >= 0 && i < REGISTER_COUNT ? registers[i] : 0;
    }

    public int memory(int i) {
        return i >= 0 && i < CELL_COUNT ? cells[i] : 0;
    }

    public int digest() {
        int sum = 0;
        for (int i = 0; i < REGISTER_COUNT; i++) {
            sum += registers[i] * (i + 1);
        }
        for (int i = 0; i < CELL_COUNT; i++) {
            sum += cells[i] * (i + 5);
        }
        return sum;
    }

    private void beginAt0(int status) {
        runStatus = status;
        runPosition = 0;
        finishedCount = 0;
    }

    private void step() {
        int at = runPosition;
        if (at < 0 || at >= programLength) {
            runStatus = TRAPPED;
            return;
        }
        int op = programOp[at];
        int a = programRegs[at] & 3;
        int b = programRegs[at] >> 2 & 3;
        int c = programRegs[at] >> 4 & 3;
        int next = at + 1;
        if (traps(op, b, c)) {
            runStatus = TRAPPED;
            return;
        }
        switch (op) {
            case OP_SET: registers[a] = programNumber[at]; break;
            case OP_ADD: registers[a] = registers[b] + registers[c]; break;
            case OP_MUL: registers[a] = registers[b] * registers[c]; break;
            case OP_DIV: registers[a] = registers[b] / registers[c]; break;
            case OP_LOAD: registers[a] = cells[registers[b] & 7]; break;
            case OP_STORE: cells[registers[b] & 7] = registers[a]; break;
            case OP_ZERO: next = registers[a] == 0 ? programNumber[at] : next; break;
            case OP_JUMP: next = programNumber[at]; break;
            default: runStatus = HALTED; next = at; break;
        }
        runPosition = next;
        finishedCount++;
    }

    private boolean traps(int op, int b, int c) {
        if (op == OP_DIV) {
            return registers[c] == 0;
        }
        return (op == OP_LOAD || op == OP_STORE) && registers[b] < 0;
    }
}
