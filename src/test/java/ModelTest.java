/**
 * Made-up runs of calls, the same each time, on the class and on a model that carries instructions out one by one:
 * every answer must be the model's. This is what shows that reordering and guessing are never seen.
 */
public final class ModelTest {
    private static final int RUNS = 60000;
    /** The document promises nothing after call 512. */
    private static final int MOST_CALLS = 512;

    private static int wrong = 0;

    /** The document's terms, read word by word. */
    private static final class Model {
        final int[][] program = new int[16][];
        final int[] registers = new int[4];
        final int[] cells = new int[8];
        int length = 0;
        int status = 0;
        int position = 0;
        int finished = 0;

        int emit(int op, int regs, int n) {
            if (op < 0 || op > 8 || regs < 0 || regs > 63) {
                return -1;
            }
            if (length == 16) {
                return -2;
            }
            program[length++] = new int[] {op, regs % 4, regs / 4 % 4, regs / 16, n};
            begin(0);
            return length - 1;
        }

        void clear() {
            length = 0;
            begin(0);
        }

        void begin(int newStatus) {
            status = newStatus;
            position = 0;
            finished = 0;
        }

        boolean set(int i, int v) {
            if (status == 1) {
                return false;
            }
            if (i >= 0 && i <= 3) {
                registers[i] = v;
                return true;
            }
            if (i >= 8 && i <= 15) {
                cells[i - 8] = v;
                return true;
            }
            return false;
        }

        int finish(int n) {
            int count = 0;
            while (status == 1 && count < Math.min(n, 200)) {
                if (step()) {
                    count++;
                } else {
                    status = 3;
                }
            }
            finished += count;
            return count;
        }

        boolean step() {
            if (position < 0 || position >= length) {
                return false;
            }
            int[] p = program[position];
            int a = p[1];
            int b = registers[p[2]];
            int c = registers[p[3]];
            int next = position + 1;
            if (p[0] == 3 && c == 0 || (p[0] == 4 || p[0] == 5) && b < 0) {
                return false;
            }
            switch (p[0]) {
                case 0 -> registers[a] = p[4];
                case 1 -> registers[a] = b + c;
                case 2 -> registers[a] = b * c;
                case 3 -> registers[a] = (int) ((long) b / c);
                case 4 -> registers[a] = cells[b % 8];
                case 5 -> cells[b % 8] = registers[a];
                case 6 -> next = registers[a] == 0 ? p[4] : next;
                case 7 -> next = p[4];
                default -> {
                    status = 2;
                    next = position;
                }
            }
            position = next;
            return true;
        }

        int digest() {
            int sum = 0;
            for (int i = 0; i < 12; i++) {
                sum += (i + 1) * (i < 4 ? registers[i] : cells[i - 4]);
            }
            return sum;
        }
    }

    private final StringBuilder story = new StringBuilder();
    private final ReorderCore core = new ReorderCore();
    private final Model model = new Model();
    private long seed;
    private int calls = 0;
    private boolean right = true;

    private ModelTest(int run) {
        seed = run * 0x9E3779B97F4A7C15L + 1;
    }

    private int pick(int bound) {
        seed = seed * 6364136223846793005L + 1442695040888963407L;
        return (int) ((seed >>> 33) % bound);
    }

    private int pickFrom(int... values) {
        return values[pick(values.length)];
    }

    private int pickValue() {
        return switch (pick(6)) {
            case 0 -> 0;
            case 1 -> pickFrom(1, -1, Integer.MIN_VALUE, Integer.MAX_VALUE);
            case 2 -> pick(1 << 30) - (1 << 29);
            default -> pick(10) - 1;
        };
    }

    private int pickTarget() {
        return pick(12) == 0 ? pickFrom(-1, 16, 17, Integer.MIN_VALUE, Integer.MAX_VALUE) : pick(16);
    }

    private void due(String call, int got, int want) {
        calls++;
        story.append(call).append(" -> ").append(got).append('\n');
        if (got != want) {
            right = false;
            story.append("  due was ").append(want).append('\n');
        }
    }

    private void emit(int op, int regs, int n) {
        due("emit(" + op + ", " + regs + ", " + n + ")", core.emit(op, regs, n), model.emit(op, regs, n));
    }

    private void emitSome(int flavour) {
        int op = switch (flavour) {
            case 0 -> pick(9);
            case 1 -> pickFrom(0, 1, 2, 4, 4, 5, 5, 6, 7);
            case 2 -> pickFrom(0, 1, 2, 3, 6, 6, 6, 7);
            default -> pickFrom(1, 2, 3, 4, 5);
        };
        emit(op, pick(64), op == 0 ? pickValue() : pickTarget());
    }

    private void set(int i, int v) {
        due("set(" + i + ", " + v + ")", core.set(i, v) ? 1 : 0, model.set(i, v) ? 1 : 0);
    }

    private void start() {
        int guesses = pickFrom(0, -1, pick(65536), pick(65536), ~pick(65536));
        core.start(guesses);
        model.begin(1);
        calls++;
        story.append("start(").append(guesses).append(")\n");
    }

    private void clear() {
        core.clear();
        model.clear();
        calls++;
        story.append("clear()\n");
    }

    private void finish() {
        int n = pickFrom(0, 1, 1, 1, 2, 3, 5, 8, 13, 40, 200, 201, -1, Integer.MAX_VALUE, Integer.MIN_VALUE);
        due("finish(" + n + ")", core.finish(n), model.finish(n));
    }

    private void lookAround() {
        due("length()", core.length(), model.length);
        due("status()", core.status(), model.status);
        due("position()", core.position(), model.position);
        due("finished()", core.finished(), model.finished);
        due("digest()", core.digest(), model.digest());
        int r = pick(4);
        due("register(" + r + ")", core.register(r), model.registers[r]);
        int c = pick(8);
        due("memory(" + c + ")", core.memory(c), model.cells[c]);
    }

    private void lookAtAll() {
        for (int r = 0; r < 4; r++) {
            due("register(" + r + ")", core.register(r), model.registers[r]);
        }
        for (int c = 0; c < 8; c++) {
            due("memory(" + c + ")", core.memory(c), model.cells[c]);
        }
    }

    private void writeProgram() {
        int flavour = pick(4);
        int size = 1 + pick(16);
        for (int i = 0; i < size; i++) {
            emitSome(flavour);
        }
    }

    private void setSome() {
        for (int i = 0; i < 4; i++) {
            set(i, pickValue());
        }
        for (int i = 0; i < 4; i++) {
            set(pick(20) - 2, pickValue());
        }
    }

    private void callOne() {
        switch (pick(24)) {
            case 0 -> {
                clear();
                writeProgram();
                setSome();
                start();
            }
            case 1 -> emit(pickFrom(-1, 9, pick(9)), pickFrom(-1, 64, pick(64)), pickValue());
            case 2 -> emitSome(0);
            case 3 -> set(pick(20) - 2, pickValue());
            case 4, 5, 6 -> start();
            default -> finish();
        }
    }

    private boolean play() {
        writeProgram();
        setSome();
        start();
        while (right && calls < MOST_CALLS - 60) {
            callOne();
            lookAround();
        }
        lookAtAll();
        return right;
    }

    public static void main(String[] args) {
        for (int run = 0; run < RUNS && wrong < 3; run++) {
            ModelTest test = new ModelTest(run);
            if (!test.play()) {
                wrong++;
                System.out.println("run " + run + ":\n" + test.story);
            }
        }
        System.out.println(wrong == 0 ? RUNS + " runs are as due" : wrong + " runs are not as due");
        if (wrong != 0) {
            System.exit(1);
        }
    }
}
