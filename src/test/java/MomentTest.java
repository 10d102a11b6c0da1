/** Promises 8 to 15: forget, moments, and what can be asked of a moment. */
public final class MomentTest {
    private MomentTest() {
    }

    public static void main(String[] args) {
        forgetOne();
        forgetParentKeepsChild();
        momentsAreBits();
        kindsAndPositions();
        peekPlaces();
        saidCounts();
        lastSaidReachesEight();
        lastSaidOfBranches();
        differenceBits();
        differenceOfNone();
        noMomentAnswers();
        Due.end();
    }

    private static void forgetOne() {
        ReplayDesk desk = Due.desk(Due.row(Due.STOP, 0, 0));
        Due.is("forget of none", false, desk.forget(0));
        desk.start();
        desk.start();
        for (int m : Due.OUTSIDE) {
            Due.is("forget of " + m, false, desk.forget(m));
        }
        Due.is("forget of 12", false, desk.forget(12));
        Due.is("forget of 2", false, desk.forget(2));
        Due.is("refusals change nothing", 3, desk.moments());
        Due.is("forget of 0", true, desk.forget(0));
        Due.is("forgotten", 2, desk.moments());
        Due.is("forget twice", false, desk.forget(0));
        Due.is("still", 2, desk.moments());
    }

    private static void forgetParentKeepsChild() {
        ReplayDesk desk = Due.desk(
            Due.row(Due.ASK, 0, 0), Due.row(Due.STORE, 0, 0), Due.row(Due.SAY, 0, 0), Due.row(Due.JUMP, 0, 0));
        desk.start();
        desk.answer(0, 5);
        desk.answer(1, 6);
        desk.forget(1);
        Due.is("other moment under the number", 1, desk.answer(0, 9));
        desk.forget(0);
        Due.is("start under the number", 0, desk.start());
        Due.is("child cell 5", 5, desk.peek(2, 21));
        Due.is("child cell 6", 6, desk.peek(2, 22));
        Due.is("child cell 9", 0, desk.peek(2, 25));
        Due.is("child said", 2, desk.said(2));
        Due.is("child said before", 5, desk.lastSaid(2, 1));
        Due.is("child can be answered", 3, desk.answer(2, 7));
        Due.is("grandchild cell 5", 5, desk.peek(3, 21));
        Due.is("grandchild said first", 5, desk.lastSaid(3, 2));
    }

    private static void momentsAreBits() {
        ReplayDesk desk = Due.desk(Due.row(Due.STOP, 0, 0));
        int bits = 0;
        for (int m = 0; m < 12; m++) {
            Due.is("moments before " + m, bits, desk.moments());
            desk.start();
            bits |= 1 << m;
        }
        for (int m = 11; m >= 0; m -= 2) {
            desk.forget(m);
            bits -= 1 << m;
            Due.is("moments without " + m, bits, desk.moments());
        }
    }

    private static void kindsAndPositions() {
        ReplayDesk desk = Due.desk(
            Due.row(Due.SET, 0, 1), Due.row(Due.ASK, 1, 0), Due.row(Due.ZERO, 1, 6), Due.row(Due.SUB, 1, 0),
            Due.row(Due.ZERO, 1, -9), Due.row(Due.JUMP, 0, 5), Due.row(Due.STOP, 0, 0));
        desk.start();
        desk.answer(0, 0);
        desk.answer(0, 1);
        desk.answer(0, 2);
        Due.is("kind asking", ReplayDesk.ASKING, desk.kind(0));
        Due.is("position asking", 1, desk.position(0));
        Due.is("kind stopped", ReplayDesk.STOPPED, desk.kind(1));
        Due.is("position stopped", 6, desk.position(1));
        Due.is("kind lost", ReplayDesk.LOST, desk.kind(2));
        Due.is("position lost", -9, desk.position(2));
        Due.is("kind tired", ReplayDesk.TIRED, desk.kind(3));
        Due.is("position tired", 5, desk.position(3));
        desk.forget(3);
        Due.is("kind forgotten", ReplayDesk.NONE, desk.kind(3));
        Due.is("position forgotten", 0, desk.position(3));
    }

    private static void peekPlaces() {
        ReplayDesk desk = Due.desk(
            Due.row(Due.SET, 0, 1), Due.row(Due.SUB, 1, 0), Due.row(Due.ADD, 2, 0), Due.row(Due.STORE, 2, 2),
            Due.row(Due.ASK, 3, 0), Due.row(Due.JUMP, 0, 2));
        desk.start();
        int m = 0;
        for (int i = 0; i < 20; i++) {
            int made = desk.answer(m, i);
            desk.forget(m);
            m = made;
        }
        Due.is("register 0", 1, desk.peek(m, 0));
        Due.is("register 1", -1, desk.peek(m, 1));
        Due.is("register 2", 21, desk.peek(m, 2));
        Due.is("register 3", 19, desk.peek(m, 3));
        for (int i = 4; i < 16; i++) {
            Due.is("peek " + i, 0, desk.peek(m, i));
        }
        for (int cell = 0; cell < 16; cell++) {
            Due.is("cell " + cell, cell <= 5 ? cell + 16 : cell, desk.peek(m, 16 + cell));
        }
        for (int i : Due.OUTSIDE) {
            Due.is("peek " + i, 0, desk.peek(m, i));
        }
    }

    private static ReplayDesk talking() {
        return Due.desk(
            Due.row(Due.ASK, 0, 0), Due.row(Due.SAY, 0, 0), Due.row(Due.JUMP, 0, 0));
    }

    private static void saidCounts() {
        ReplayDesk desk = talking();
        desk.start();
        int m = 0;
        for (int i = 0; i < 30; i++) {
            Due.is("said " + i, i, desk.said(m));
            int made = desk.answer(m, 0);
            desk.forget(m);
            m = made;
        }
        // As many as 512 calls allow: 60 in each stretch is the most that can be said.
        ReplayDesk loud = new ReplayDesk();
        for (int i = 0; i < 15; i++) {
            loud.emit(Due.SAY, 0, 0);
        }
        loud.emit(Due.JUMP, 0, 0);
        loud.start();
        int last = 0;
        for (int i = 0; i < 200; i++) {
            int made = loud.goOn(last);
            loud.forget(last);
            last = made;
        }
        int carriedOut = 201 * 60;
        Due.is("said in many stretches", carriedOut - carriedOut / 16, loud.said(last));
    }

    private static void lastSaidReachesEight() {
        ReplayDesk desk = talking();
        desk.start();
        int m = 0;
        // 17 rounds of 28 calls: more would go past the 512 calls that an object is used for.
        for (int i = 0; i < 17; i++) {
            for (int k = -1; k <= 9; k++) {
                boolean there = k >= 0 && k <= 7 && k < i;
                Due.is("after " + i + " lastSaid " + k, there ? 100 + i - 1 - k : 0, desk.lastSaid(m, k));
            }
            for (int k : Due.OUTSIDE) {
                Due.is("after " + i + " lastSaid " + k, 0, desk.lastSaid(m, k));
            }
            int made = desk.answer(m, 100 + i);
            desk.forget(m);
            m = made;
        }
    }

    private static void lastSaidOfBranches() {
        ReplayDesk desk = talking();
        desk.start();
        for (int i = 0; i < 9; i++) {
            desk.answer(i, i + 1);
        }
        Due.is("branch", 10, desk.answer(4, -40));
        Due.is("branch last", -40, desk.lastSaid(10, 0));
        Due.is("branch before", 4, desk.lastSaid(10, 1));
        Due.is("branch first", 1, desk.lastSaid(10, 4));
        Due.is("branch fewer", 0, desk.lastSaid(10, 5));
        Due.is("other last", 5, desk.lastSaid(5, 0));
        Due.is("longest last", 9, desk.lastSaid(9, 0));
        Due.is("longest eighth", 2, desk.lastSaid(9, 7));
        Due.is("longest ninth", 0, desk.lastSaid(9, 8));
    }

    private static void differenceBits() {
        ReplayDesk desk = Due.desk(
            Due.row(Due.SET, 1, 9), Due.row(Due.ASK, 0, 0), Due.row(Due.STORE, 1, 0), Due.row(Due.STOP, 0, 0));
        for (int cell = 0; cell < 16; cell++) {
            desk.forgetAll();
            desk.start();
            desk.answer(0, cell);
            int due = (cell == 0 ? 0 : 1) | 1 << (16 + cell);
            Due.is("difference cell " + cell, due, desk.difference(0, 1));
            Due.is("difference back " + cell, due, desk.difference(1, 0));
            Due.is("difference of itself", 0, desk.difference(1, 1));
        }
        ReplayDesk registers = Due.desk(
            Due.row(Due.ASK, 0, 0), Due.row(Due.ASK, 1, 0), Due.row(Due.ASK, 2, 0), Due.row(Due.ASK, 3, 0));
        registers.start();
        for (int i = 0; i < 4; i++) {
            registers.answer(i, Integer.MIN_VALUE);
            Due.is("difference register " + i, 1 << i, registers.difference(i, i + 1));
            Due.is("difference registers to " + i, (2 << i) - 1, registers.difference(0, i + 1));
        }
    }

    private static void differenceOfNone() {
        ReplayDesk desk = Due.desk(Due.row(Due.ASK, 0, 0));
        desk.start();
        desk.answer(0, 5);
        desk.answer(0, 6);
        desk.forget(2);
        Due.is("difference of two", 1, desk.difference(0, 1));
        Due.is("difference with forgotten", 0, desk.difference(0, 2));
        Due.is("difference from forgotten", 0, desk.difference(2, 0));
        Due.is("difference with 12", 0, desk.difference(1, 12));
        Due.is("difference from 12", 0, desk.difference(12, 1));
        for (int m : Due.OUTSIDE) {
            Due.is("difference with " + m, 0, desk.difference(1, m));
            Due.is("difference from " + m, 0, desk.difference(m, 1));
            Due.is("difference of " + m, 0, desk.difference(m, m));
        }
    }

    private static void noMomentAnswers() {
        ReplayDesk desk = Due.desk(
            Due.row(Due.SET, 0, 3), Due.row(Due.STORE, 0, 0), Due.row(Due.SAY, 0, 0), Due.row(Due.JUMP, 0, -4));
        Due.fill(desk);
        for (int m : Due.OUTSIDE) {
            nothingAt(desk, m);
        }
        nothingAt(desk, 12);
        nothingAt(desk, 16);
        desk.forget(0);
        nothingAt(desk, 0);
        desk.forget(11);
        nothingAt(desk, 11);
    }

    private static void nothingAt(ReplayDesk desk, int m) {
        Due.is("kind of " + m, ReplayDesk.NONE, desk.kind(m));
        Due.is("position of " + m, 0, desk.position(m));
        Due.is("peek register of " + m, 0, desk.peek(m, 0));
        Due.is("peek cell of " + m, 0, desk.peek(m, 19));
        Due.is("said of " + m, 0, desk.said(m));
        Due.is("lastSaid of " + m, 0, desk.lastSaid(m, 0));
    }
}
