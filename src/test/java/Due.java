import java.util.function.Consumer;
import java.util.function.Supplier;

/** Counts and prints the answers that are not the due ones. */
final class Due {
    static final int SET = 0;
    static final int ADD = 1;
    static final int SUB = 2;
    static final int LOAD = 3;
    static final int STORE = 4;
    static final int ZERO = 5;
    static final int JUMP = 6;
    static final int SAY = 7;
    static final int ASK = 8;
    static final int STOP = 9;

    /** Numbers that are never a moment's, a register's or an instruction's. */
    static final int[] OUTSIDE = {
        Integer.MIN_VALUE, Integer.MIN_VALUE + 1, -33, -32, -16, -12, -1, 32, 33, 64, 256, 1 << 27, 1 << 30,
        Integer.MAX_VALUE - 1, Integer.MAX_VALUE
    };

    /** None is the number of a moment, though the low bits of some are, and some wrap to one in a product. */
    static final int[] NO_MOMENT = {
        Integer.MIN_VALUE, Integer.MIN_VALUE + 11, -(1 << 27), -256, -33, -32, -21, -12, -2, -1, 12, 13, 15, 16, 31, 32,
        43, 44, 64, 256, 1 << 16, 1 << 27, (1 << 27) + 11, 1 << 30, Integer.MAX_VALUE
    };

    private static int wrong = 0;
    private static String sentence = "";

    private Due() {
    }

    /** Names the sentence of the document that the answers to come are due by. */
    static void by(String words) {
        sentence = "[" + words + "] ";
    }

    static void is(String call, long want, long got) {
        if (got != want) {
            wrong++;
            System.out.println(sentence + call + " answered " + got + ", due is " + want);
        }
    }

    static void is(String call, boolean want, boolean got) {
        is(call, want ? 1L : 0L, got ? 1L : 0L);
    }

    static void end() {
        System.out.println(wrong == 0 ? "all answers are as due" : wrong + " answers are not as due");
        if (wrong != 0) {
            System.exit(1);
        }
    }

    /** A desk whose program is the given rows of op, a, b. */
    static ReplayDesk desk(int[]... rows) {
        ReplayDesk desk = new ReplayDesk();
        for (int i = 0; i < rows.length; i++) {
            is("emit at " + i, i, desk.emit(rows[i][0], rows[i][1], rows[i][2]));
        }
        return desk;
    }

    static int[] row(int op, int a, int b) {
        return new int[] {op, a, b};
    }

    /** Starts until all twelve numbers are in use. */
    static void fill(ReplayDesk desk) {
        for (int i = 0; i < 12 && desk.moments() != 4095; i++) {
            desk.start();
        }
        is("moments of a filled desk", 4095, desk.moments());
    }

    /** The 43 answers about moment m of one desk are those about moment n of another, or of the same. */
    static void sameMoment(String call, ReplayDesk one, int m, ReplayDesk other, int n) {
        is(call + ": kind", one.kind(m), other.kind(n));
        is(call + ": position", one.position(m), other.position(n));
        is(call + ": said", one.said(m), other.said(n));
        for (int i = 0; i < 32; i++) {
            is(call + ": peek " + i, one.peek(m, i), other.peek(n, i));
        }
        for (int k = 0; k < 8; k++) {
            is(call + ": lastSaid " + k, one.lastSaid(m, k), other.lastSaid(n, k));
        }
    }

    /**
     * A desk on which the call was made is as one on which it was not. Looking at all twelve moments takes more calls
     * than an object is used for, so each look is at new desks, which must be made the same way each time.
     */
    static void changesNothing(String call, Supplier<ReplayDesk> made, Consumer<ReplayDesk> refused) {
        for (int m = 0; m < 12; m++) {
            ReplayDesk without = made.get();
            ReplayDesk with = made.get();
            refused.accept(with);
            is(call + ": moments", without.moments(), with.moments());
            sameMoment(call + ": moment " + m, without, m, with, m);
            is(call + ": number of the next", without.start(), with.start());
            sameProgram(call, without, with);
        }
    }

    /** Forgets all moments of both. */
    private static void sameProgram(String call, ReplayDesk one, ReplayDesk other) {
        one.forgetAll();
        other.forgetAll();
        is(call + ": start", one.start(), other.start());
        sameMoment(call + ": first stretch", one, 0, other, 0);
        one.forgetAll();
        other.forgetAll();
        is(call + ": length", one.emit(STOP, 0, 0), other.emit(STOP, 0, 0));
    }
}
