/** Counts and prints the answers that are not the due ones. */
final class Due {
    static final int SET = 0;
    static final int ADD = 1;
    static final int SUB = 2;
    static final int LOAD = 3;
    static final int STORE = 4;
    static final int ZERO = 5;
    static final int JUMP = 6;
    static final int SAY = 7;
    static final int ASK = 8;
    static final int STOP = 9;

    /** Numbers that are never a moment's, a register's or an instruction's. */
    static final int[] OUTSIDE = {
        Integer.MIN_VALUE, Integer.MIN_VALUE + 1, -33, -32, -16, -12, -1, 32, 33, 64, 256, 1 << 27, 1 << 30,
        Integer.MAX_VALUE - 1, Integer.MAX_VALUE
    };

    private static int wrong = 0;

    private Due() {
    }

    static void is(String call, long want, long got) {
        if (got != want) {
            wrong++;
            System.out.println(call + " answered " + got + ", due is " + want);
        }
    }

    static void is(String call, boolean want, boolean got) {
        is(call, want ? 1L : 0L, got ? 1L : 0L);
    }

    static void end() {
        System.out.println(wrong == 0 ? "all answers are as due" : wrong + " answers are not as due");
        if (wrong != 0) {
            System.exit(1);
        }
    }

    /** A desk whose program is the given rows of op, a, b. */
    static ReplayDesk desk(int[]... rows) {
        ReplayDesk desk = new ReplayDesk();
        for (int i = 0; i < rows.length; i++) {
            is("emit at " + i, i, desk.emit(rows[i][0], rows[i][1], rows[i][2]));
        }
        return desk;
    }

    static int[] row(int op, int a, int b) {
        return new int[] {op, a, b};
    }

    /** Starts until all twelve numbers are in use. */
    static void fill(ReplayDesk desk) {
        for (int i = 0; i < 12 && desk.moments() != 4095; i++) {
            desk.start();
        }
        is("moments of a filled desk", 4095, desk.moments());
    }
}
