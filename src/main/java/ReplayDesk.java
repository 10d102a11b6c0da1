/** Runs an asking program whose every question can be answered more than once. */
public final class ReplayDesk {
    public static final int NONE = -1;
    public static final int FULL = -2;
    public static final int LOST = 0;
    public static final int STOPPED = 1;
    public static final int ASKING = 2;
    public static final int TIRED = 3;

    private static final int SET = 0;
    private static final int ADD = 1;
    private static final int SUB = 2;
    private static final int LOAD = 3;
    private static final int STORE = 4;
    private static final int ZERO = 5;
    private static final int JUMP = 6;
    private static final int SAY = 7;
    private static final int ASK = 8;
    private static final int STOP = 9;

    private static final int MOST_INSTRUCTIONS = 16;
    private static final int MOST_MOMENTS = 12;
    private static final int MOST_IN_STRETCH = 60;
    private static final int REGISTERS = 4;
    private static final int MEMORY = 16;
    private static final int CELL_MASK = 15;
    private static final int ROW = 32;
    private static final int HEARD = 8;
    private static final int HEARD_MASK = 7;
    private static final int ALL_ROWS = MOST_MOMENTS * ROW;
    private static final int ALL_HEARD = MOST_MOMENTS * HEARD;

    private final int[] operations = new int[MOST_INSTRUCTIONS];
    private final int[] firsts = new int[MOST_INSTRUCTIONS];
    private final int[] seconds = new int[MOST_INSTRUCTIONS];
    private int length = 0;

    private int inUse = 0;
    private final int[] kinds = new int[MOST_MOMENTS];
    private final int[] positions = new int[MOST_MOMENTS];

    // A moment's row is numbered as peek numbers it: registers at 0 .. 3, memory at 16 .. 31.
    // The places between are never written, so peek and difference find 0 there.
    private final int[] values = new int[ALL_ROWS];

    // Only the last eight numbers said can ever be asked for, so each moment holds them in a ring
    // in which the number said as the n-th (from 0) stands at the low three bits of n.
    private final int[] saidCounts = new int[MOST_MOMENTS];
    private final int[] heard = new int[ALL_HEARD];

    public ReplayDesk() {
    }

    public int emit(int op, int a, int b) {
        if (!isInstruction(op, a, b)) {
            return NONE;
        }
        if (length >= MOST_INSTRUCTIONS) {
            return FULL;
        }
        if (inUse != 0) {
            return NONE;
        }
        int position = length;
        operations[position] = op;
        firsts[position] = a;
        seconds[position] = b;
        length = position + 1;
        return position;
    }

    public void forgetAll() {
        inUse = 0;
    }

    public void clear() {
        length = 0;
        inUse = 0;
    }

    public int start() {
        int made = leastFree();
        if (made == FULL) {
            return FULL;
        }
        blankMoment(made);
        runStretch(made, 0);
        return made;
    }

    public int answer(int m, int v) {
        if (!isKept(m) || kinds[m] != ASKING) {
            return NONE;
        }
        int made = leastFree();
        if (made == FULL) {
            return FULL;
        }
        copyMoment(m, made);
        // An ASKING moment stands on an instruction, and the program can't change while it is kept.
        int asked = positions[m];
        values[made * ROW + firsts[asked]] = v;
        runStretch(made, asked + 1);
        return made;
    }

    public int goOn(int m) {
        if (!isKept(m) || kinds[m] != TIRED) {
            return NONE;
        }
        int made = leastFree();
        if (made == FULL) {
            return FULL;
        }
        copyMoment(m, made);
        runStretch(made, positions[m]);
        return made;
    }

    public boolean forget(int m) {
        if (!isKept(m)) {
            return false;
        }
        inUse &= ~(1 << m);
        return true;
    }

    public int moments() {
        return inUse;
    }

    public int kind(int m) {
        return isKept(m) ? kinds[m] : NONE;
    }

    public int position(int m) {
        return isKept(m) ? positions[m] : 0;
    }

    public int peek(int m, int i) {
        if (!isKept(m) || i < 0 || i >= ROW) {
            return 0;
        }
        return values[m * ROW + i];
    }

    public int said(int m) {
        return isKept(m) ? saidCounts[m] : 0;
    }

    public int lastSaid(int m, int k) {
        if (!isKept(m) || k < 0 || k >= HEARD || k >= saidCounts[m]) {
            return 0;
        }
        return heard[m * HEARD + ((saidCounts[m] - 1 - k) & HEARD_MASK)];
    }

    public int difference(int m, int n) {
        if (!isKept(m) || !isKept(n)) {
            return 0;
        }
        int bits = 0;
        for (int i = 0; i < ROW; i++) {
            if (values[m * ROW + i] != values[n * ROW + i]) {
                bits |= 1 << i;
            }
        }
        return bits;
    }

    private static boolean isInstruction(int op, int a, int b) {
        if (op < SET || op > STOP || !isRegister(a)) {
            return false;
        }
        boolean secondIsRegister = op >= ADD && op <= STORE;
        return !secondIsRegister || isRegister(b);
    }

    private static boolean isRegister(int number) {
        return number >= 0 && number < REGISTERS;
    }

    private boolean isKept(int m) {
        return m >= 0 && m < MOST_MOMENTS && (inUse & (1 << m)) != 0;
    }

    private int leastFree() {
        for (int m = 0; m < MOST_MOMENTS; m++) {
            if ((inUse & (1 << m)) == 0) {
                return m;
            }
        }
        return FULL;
    }

    private void blankMoment(int made) {
        for (int i = 0; i < ROW; i++) {
            values[made * ROW + i] = 0;
        }
        saidCounts[made] = 0;
    }

    private void copyMoment(int from, int made) {
        for (int i = 0; i < ROW; i++) {
            values[made * ROW + i] = values[from * ROW + i];
        }
        for (int i = 0; i < HEARD; i++) {
            heard[made * HEARD + i] = heard[from * HEARD + i];
        }
        saidCounts[made] = saidCounts[from];
    }

    // Works in the rows of the moment being made: its number is free, so no kept moment is touched.
    private void runStretch(int made, int begin) {
        int position = begin;
        int end = endBefore(position, 0);
        for (int carriedOut = 1; end == NONE && carriedOut <= MOST_IN_STRETCH; carriedOut++) {
            position = carryOut(made, position);
            end = endBefore(position, carriedOut);
        }
        kinds[made] = end;
        positions[made] = position;
        inUse |= 1 << made;
    }

    // The document's order decides: being tired comes last, after the other three ends.
    private int endBefore(int position, int carriedOut) {
        if (position < 0 || position >= length) {
            return LOST;
        }
        if (operations[position] == STOP) {
            return STOPPED;
        }
        if (operations[position] == ASK) {
            return ASKING;
        }
        return carriedOut >= MOST_IN_STRETCH ? TIRED : NONE;
    }

    private int carryOut(int made, int position) {
        int row = made * ROW;
        int a = row + firsts[position];
        int b = seconds[position];
        int next = position + 1;
        switch (operations[position]) {
            case SET:
                values[a] = b;
                break;
            case ADD:
                values[a] += values[row + b];
                break;
            case SUB:
                values[a] -= values[row + b];
                break;
            case LOAD:
                values[a] = values[row + MEMORY + (values[row + b] & CELL_MASK)];
                break;
            case STORE:
                values[row + MEMORY + (values[row + b] & CELL_MASK)] = values[a];
                break;
            case ZERO:
                next = values[a] == 0 ? b : next;
                break;
            case JUMP:
                next = b;
                break;
            case SAY:
                say(made, values[a]);
                break;
            default:
                break;
        }
        return next;
    }

    private void say(int made, int number) {
        heard[made * HEARD + (saidCounts[made] & HEARD_MASK)] = number;
        saidCounts[made]++;
    }
}
