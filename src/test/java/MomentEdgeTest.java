/** The boundary cases that promises 8 to 15 name: forget, moments, and what can be asked of a moment. */
public final class MomentEdgeTest {
    private static final int MIN = Integer.MIN_VALUE;
    private static final int MAX = Integer.MAX_VALUE;
    private static final int[] EXTREMES = {MIN, MIN + 1, -65536, -1, 1, 65536, MAX - 1, MAX};

    private MomentEdgeTest() {
    }

    public static void main(String[] args) {
        forgetEach();
        forgetFalseWhenNone();
        forgetFalseChangesNothing();
        forgetChangesNoOther();
        whatCameFromItStays();
        momentsOfNoneAndAll();
        momentsOfEachSet();
        kindOfEach();
        kindNoneWhenNone();
        positionOfEach();
        positionZeroWhenNone();
        peekRegisters();
        peekCells();
        peekZeroWhenNone();
        peekZeroForOtherI();
        saidCountsAll();
        saidNothing();
        saidZeroWhenNone();
        lastSaidFromZeroToSeven();
        lastSaidZeroWhenFewer();
        lastSaidZeroForOtherK();
        lastSaidZeroWhenNone();
        differenceOfRegisters();
        differenceOfCells();
        differenceOfAllAndNothing();
        differenceOfNothingElse();
        differenceZeroWhenNone();
        looksChangeNothing();
        Due.end();
    }

    /** Asks for register 0, adds it to register 1, stores that in the cell it numbers, says it, and asks again. */
    private static ReplayDesk adding() {
        ReplayDesk desk = Due.desk(
            Due.row(Due.ASK, 0, 0), Due.row(Due.ADD, 1, 0), Due.row(Due.STORE, 1, 1), Due.row(Due.SAY, 1, 0),
            Due.row(Due.JUMP, 0, 0));
        desk.start();
        return desk;
    }

    /** Twelve moments, each of which came from the one before it. */
    private static ReplayDesk addingFull() {
        ReplayDesk desk = adding();
        for (int i = 0; i < 11; i++) {
            desk.answer(i, i + 1);
        }
        return desk;
    }

    private static void forgetEach() {
        Due.by("Promise 8: Forgets moment m and answers true");
        for (int m = 0; m < 12; m++) {
            ReplayDesk desk = addingFull();
            Due.is("forget " + m, true, desk.forget(m));
            Due.is("moments without " + m, 4095 - (1 << m), desk.moments());
            Due.is("kind of " + m, ReplayDesk.NONE, desk.kind(m));
            Due.is("its number is free", m, desk.start());
        }
        ReplayDesk desk = addingFull();
        for (int m = 11; m >= 0; m--) {
            Due.is("forget down to " + m, true, desk.forget(m));
        }
        Due.is("moments when all are forgotten", 0, desk.moments());
    }

    private static void forgetFalseWhenNone() {
        Due.by("Promise 8: false .. when there is none");
        ReplayDesk fresh = new ReplayDesk();
        for (int m = 0; m < 12; m++) {
            Due.is("forget " + m + " of a new object", false, fresh.forget(m));
        }
        ReplayDesk desk = addingFull();
        for (int m : Due.NO_MOMENT) {
            Due.is("forget " + m, false, desk.forget(m));
        }
        for (int m = 0; m < 12; m++) {
            desk.forget(m);
            Due.is("forget " + m + " twice", false, desk.forget(m));
        }
    }

    private static void forgetFalseChangesNothing() {
        Due.by("Promise 8: false, changing nothing");
        for (int m : Due.NO_MOMENT) {
            Due.changesNothing("forget " + m, MomentEdgeTest::addingFull, desk -> desk.forget(m));
        }
        Due.changesNothing("forget 1", MomentEdgeTest::adding, desk -> desk.forget(1));
        Due.changesNothing("forget 0 of a new object", ReplayDesk::new, desk -> desk.forget(0));
    }

    private static void forgetChangesNoOther() {
        Due.by("Promise 8: Forgets moment m alone");
        for (int m = 0; m < 12; m++) {
            ReplayDesk before = addingFull();
            ReplayDesk after = addingFull();
            after.forget((m + 1) % 12);
            after.forget((m + 11) % 12);
            Due.sameMoment("moment " + m, before, m, after, m);
        }
    }

    private static void whatCameFromItStays() {
        Due.by("Promise 8: Moments that came from it stay as they are");
        for (int m = 1; m < 12; m++) {
            ReplayDesk before = addingFull();
            ReplayDesk after = addingFull();
            for (int i = 0; i < m; i++) {
                after.forget(i);
            }
            Due.sameMoment("without those before " + m, before, m, after, m);
            for (int i = 0; i < m; i++) {
                after.start();
            }
            Due.sameMoment("with others under their numbers " + m, before, m, after, m);
        }
        ReplayDesk desk = addingFull();
        for (int m = 0; m < 11; m++) {
            desk.forget(m);
        }
        Due.is("the last can be answered", 0, desk.answer(11, 34));
        Due.is("register 1", 100, desk.peek(0, 1));
        Due.is("said", 12, desk.said(0));
        Due.is("lastSaid 7", 15, desk.lastSaid(0, 7));
    }

    private static void momentsOfNoneAndAll() {
        Due.by("Promise 9: The moments, none and all");
        ReplayDesk desk = new ReplayDesk();
        Due.is("new object", 0, desk.moments());
        Due.fill(desk);
        Due.is("all twelve", 4095, desk.moments());
        desk.start();
        Due.is("after a refused start", 4095, desk.moments());
        desk.forgetAll();
        Due.is("after forgetAll", 0, desk.moments());
    }

    private static void momentsOfEachSet() {
        Due.by("Promise 9: bit m for moment m");
        for (int bits = 0; bits < 4096; bits++) {
            ReplayDesk desk = new ReplayDesk();
            Due.fill(desk);
            for (int m = 0; m < 12; m++) {
                if ((bits & 1 << m) == 0) {
                    desk.forget(m);
                }
            }
            Due.is("moments of the bits", bits, desk.moments());
        }
    }

    private static ReplayDesk ofEachKind() {
        ReplayDesk desk = Due.desk(
            Due.row(Due.SET, 1, 1), Due.row(Due.ASK, 0, 0), Due.row(Due.ZERO, 0, 2), Due.row(Due.SUB, 0, 1),
            Due.row(Due.ZERO, 0, MIN), Due.row(Due.SUB, 0, 1), Due.row(Due.ZERO, 0, MAX), Due.row(Due.STOP, 0, 0));
        desk.start();
        for (int v = 0; v < 4; v++) {
            desk.answer(0, v);
        }
        return desk;
    }

    private static void kindOfEach() {
        Due.by("Promise 10: The kind of moment m");
        ReplayDesk desk = ofEachKind();
        Due.is("ASKING", 2, desk.kind(0));
        Due.is("TIRED", 3, desk.kind(1));
        Due.is("LOST at MIN", 0, desk.kind(2));
        Due.is("LOST at MAX", 0, desk.kind(3));
        Due.is("STOPPED", 1, desk.kind(4));
        ReplayDesk full = addingFull();
        for (int m = 0; m < 12; m++) {
            Due.is("kind of " + m, ReplayDesk.ASKING, full.kind(m));
        }
    }

    private static void kindNoneWhenNone() {
        Due.by("Promise 10: NONE when there is none");
        ReplayDesk desk = addingFull();
        for (int m : Due.NO_MOMENT) {
            Due.is("kind of " + m, ReplayDesk.NONE, desk.kind(m));
        }
        for (int m = 0; m < 12; m++) {
            desk.forget(m);
            Due.is("kind of forgotten " + m, ReplayDesk.NONE, desk.kind(m));
        }
    }

    private static void positionOfEach() {
        Due.by("Promise 11: The position of moment m");
        ReplayDesk desk = ofEachKind();
        Due.is("ASKING", 1, desk.position(0));
        Due.is("TIRED", 2, desk.position(1));
        Due.is("LOST at MIN", MIN, desk.position(2));
        Due.is("LOST at MAX", MAX, desk.position(3));
        Due.is("STOPPED", 7, desk.position(4));
    }

    /** Twelve moments in which nothing that can be asked for is 0. */
    private static ReplayDesk nowhereZero() {
        ReplayDesk desk = new ReplayDesk();
        desk.emit(Due.SET, 0, 1);
        desk.emit(Due.ADD, 1, 0);
        desk.emit(Due.STORE, 1, 1);
        desk.emit(Due.SAY, 1, 0);
        desk.emit(Due.SET, 2, 2);
        desk.emit(Due.SET, 3, 3);
        desk.emit(Due.ASK, 2, 0);
        desk.emit(Due.JUMP, 0, 1);
        int m = desk.start();
        for (int i = 0; i < 16; i++) {
            int made = desk.answer(m, i);
            desk.forget(m);
            m = made;
        }
        for (int i = 0; i < 11; i++) {
            desk.answer(m, 5);
        }
        Due.is("a full desk", 4095, desk.moments());
        return desk;
    }

    private static void positionZeroWhenNone() {
        Due.by("Promise 11: 0 when there is none");
        ReplayDesk desk = nowhereZero();
        for (int m : Due.NO_MOMENT) {
            Due.is("position of " + m, 0, desk.position(m));
        }
        for (int m = 0; m < 12; m++) {
            Due.is("position of kept " + m, 6, desk.position(m));
            desk.forget(m);
            Due.is("position of forgotten " + m, 0, desk.position(m));
        }
    }

    private static void peekRegisters() {
        Due.by("Promise 12: Register i (0 .. 3)");
        for (int v : EXTREMES) {
            ReplayDesk desk = Due.desk(
                Due.row(Due.SET, 0, v), Due.row(Due.SET, 1, v - 1), Due.row(Due.SET, 2, v - 2), Due.row(Due.SET, 3, v - 3));
            Due.fill(desk);
            for (int m = 0; m < 12; m++) {
                for (int i = 0; i < 4; i++) {
                    Due.is("register " + i + " of " + m, v - i, desk.peek(m, i));
                }
            }
        }
    }

    private static void peekCells() {
        Due.by("Promise 12: memory cell i - 16 (i from 16 to 31)");
        for (int v : EXTREMES) {
            for (int cell = 0; cell < 16; cell++) {
                ReplayDesk desk = Due.desk(
                    Due.row(Due.SET, 0, v), Due.row(Due.SET, 1, cell), Due.row(Due.STORE, 0, 1));
                desk.start();
                for (int i = 16; i < 32; i++) {
                    Due.is("peek " + i + " when cell " + cell + " is set", i == 16 + cell ? v : 0, desk.peek(0, i));
                }
            }
        }
    }

    private static void peekZeroWhenNone() {
        Due.by("Promise 12: 0 when there is no moment m");
        int[] places = {0, 3, 16, 31};
        for (int i : places) {
            ReplayDesk desk = nowhereZero();
            for (int m : Due.NO_MOMENT) {
                Due.is("peek " + i + " of " + m, 0, desk.peek(m, i));
            }
            for (int m = 0; m < 12; m++) {
                Due.is("peek " + i + " of kept " + m, true, desk.peek(m, i) != 0);
                desk.forget(m);
                Due.is("peek " + i + " of forgotten " + m, 0, desk.peek(m, i));
            }
        }
    }

    private static void peekZeroForOtherI() {
        Due.by("Promise 12: 0 .. for any other i");
        int[] others = {
            MIN, MIN + 16, -32, -17, -16, -1, 4, 5, 6, 7, 8, 9, 10, 11, 12, 13, 14, 15, 32, 33, 48, 63, 64, 256, 1 << 16,
            MAX - 1, MAX
        };
        for (int m = 0; m < 12; m++) {
            ReplayDesk desk = nowhereZero();
            for (int i : others) {
                Due.is("peek " + i + " of " + m, 0, desk.peek(m, i));
            }
        }
    }

    private static void saidCountsAll() {
        Due.by("Promise 13: How many numbers were said from the beginning up to moment m");
        ReplayDesk desk = Due.desk(Due.row(Due.SAY, 0, 0), Due.row(Due.SAY, 0, 0), Due.row(Due.JUMP, 0, 0));
        int m = desk.start();
        for (int stretches = 1; stretches <= 150; stretches++) {
            Due.is("said in " + stretches + " stretches", 40 * stretches, desk.said(m));
            int made = desk.goOn(m);
            desk.forget(m);
            m = made;
        }
    }

    private static void saidNothing() {
        Due.by("Promise 13: How many numbers were said, when none was or when 0 was");
        ReplayDesk silent = Due.desk(Due.row(Due.ASK, 0, 0), Due.row(Due.SAY, 0, 0), Due.row(Due.STOP, 0, 0));
        silent.start();
        Due.is("none said", 0, silent.said(0));
        silent.answer(0, 0);
        Due.is("0 said", 1, silent.said(1));
        Due.is("none said as before", 0, silent.said(0));
    }

    private static void saidZeroWhenNone() {
        Due.by("Promise 13: 0 when there is none");
        ReplayDesk desk = nowhereZero();
        for (int m : Due.NO_MOMENT) {
            Due.is("said of " + m, 0, desk.said(m));
        }
        for (int m = 0; m < 12; m++) {
            Due.is("said of kept " + m, true, desk.said(m) >= 17);
            desk.forget(m);
            Due.is("said of forgotten " + m, 0, desk.said(m));
        }
    }

    /** A desk on which 1, 2, .. count were said up to its only moment. */
    private static ReplayDesk saying(int count) {
        ReplayDesk desk = Due.desk(Due.row(Due.ASK, 0, 0), Due.row(Due.SAY, 0, 0), Due.row(Due.JUMP, 0, 0));
        int m = desk.start();
        for (int i = 1; i <= count; i++) {
            int made = desk.answer(m, i);
            desk.forget(m);
            m = made;
        }
        return desk;
    }

    private static int onlyMoment(ReplayDesk desk) {
        return Integer.numberOfTrailingZeros(desk.moments());
    }

    private static void lastSaidFromZeroToSeven() {
        Due.by("Promise 14: The number that was said k before the last one .., for k from 0 to 7");
        for (int count = 1; count <= 40; count++) {
            ReplayDesk desk = saying(count);
            int m = onlyMoment(desk);
            for (int k = 0; k < 8 && k < count; k++) {
                Due.is(k + " before the last of " + count, count - k, desk.lastSaid(m, k));
            }
        }
        for (int v : EXTREMES) {
            ReplayDesk desk = Due.desk(Due.row(Due.SET, 2, v), Due.row(Due.SAY, 2, 0), Due.row(Due.SAY, 0, 0));
            desk.start();
            Due.is("said " + v, v, desk.lastSaid(0, 1));
        }
    }

    private static void lastSaidZeroWhenFewer() {
        Due.by("Promise 14: 0 when fewer were said");
        for (int count = 0; count < 8; count++) {
            ReplayDesk desk = saying(count);
            for (int k = count; k < 8; k++) {
                Due.is(k + " before the last of " + count, 0, desk.lastSaid(onlyMoment(desk), k));
            }
        }
        // What other moments said under the same numbers was not said by the new ones.
        for (int count = 0; count < 8; count++) {
            ReplayDesk desk = saying(16);
            Due.is("number 0 has held 16", 1, desk.moments());
            desk.forgetAll();
            int m = desk.start();
            for (int i = 0; i < count; i++) {
                m = desk.answer(m, -1);
            }
            for (int k = 0; k < 8; k++) {
                Due.is(k + " before the last of " + count + " on a used desk", k < count ? -1 : 0, desk.lastSaid(m, k));
            }
        }
    }

    private static void lastSaidZeroForOtherK() {
        Due.by("Promise 14: 0 when .. k is another number");
        int[] others = {MIN, MIN + 1, -256, -16, -9, -8, -7, -1, 8, 9, 15, 16, 17, 32, 256, 1 << 16, MAX - 1, MAX};
        for (int count = 0; count <= 20; count++) {
            ReplayDesk desk = saying(count);
            int m = onlyMoment(desk);
            for (int k : others) {
                Due.is("lastSaid " + k + " of " + count, 0, desk.lastSaid(m, k));
            }
        }
    }

    private static void lastSaidZeroWhenNone() {
        Due.by("Promise 14: 0 when .. there is no moment m");
        for (int k = 0; k < 8; k++) {
            ReplayDesk desk = nowhereZero();
            for (int m : Due.NO_MOMENT) {
                Due.is("lastSaid " + k + " of " + m, 0, desk.lastSaid(m, k));
            }
            for (int m = 0; m < 12; m++) {
                Due.is("lastSaid " + k + " of kept " + m, true, desk.lastSaid(m, k) != 0);
                desk.forget(m);
                Due.is("lastSaid " + k + " of forgotten " + m, 0, desk.lastSaid(m, k));
            }
        }
    }

    private static void differenceOfRegisters() {
        Due.by("Promise 15: bit i for register i");
        for (int register = 0; register < 4; register++) {
            ReplayDesk desk = Due.desk(Due.row(Due.ASK, register, 0), Due.row(Due.STOP, 0, 0));
            desk.start();
            for (int v : EXTREMES) {
                int m = desk.answer(0, v);
                Due.is("register " + register + " of " + v, 1 << register, desk.difference(0, m));
                Due.is("register " + register + " of " + v + ", back", 1 << register, desk.difference(m, 0));
            }
        }
    }

    private static void differenceOfCells() {
        Due.by("Promise 15: bit 16 + i for memory cell i");
        for (int cell = 0; cell < 16; cell++) {
            ReplayDesk desk = Due.desk(
                Due.row(Due.SET, 1, cell), Due.row(Due.ASK, 0, 0), Due.row(Due.STORE, 0, 1), Due.row(Due.SET, 0, 0),
                Due.row(Due.STOP, 0, 0));
            desk.start();
            for (int v : EXTREMES) {
                int m = desk.answer(0, v);
                Due.is("cell " + cell + " of " + v, 1 << (16 + cell), desk.difference(0, m));
                Due.is("cell " + cell + " of " + v + ", back", 1 << (16 + cell), desk.difference(m, 0));
            }
        }
    }

    private static void differenceOfAllAndNothing() {
        Due.by("Promise 15: The cells and registers in which the moments m and n differ, all and none");
        ReplayDesk desk = Due.desk(
            Due.row(Due.ASK, 0, 0), Due.row(Due.SET, 1, 1), Due.row(Due.SET, 3, 3), Due.row(Due.ADD, 2, 1),
            Due.row(Due.STORE, 2, 2), Due.row(Due.ASK, 0, 0), Due.row(Due.JUMP, 0, 3));
        desk.start();
        int m = desk.answer(0, 1);
        for (int i = 0; i < 15; i++) {
            int made = desk.answer(m, 1);
            desk.forget(m);
            m = made;
        }
        Due.is("all cells and registers", 0xFFFF000F, desk.difference(0, m));
        Due.is("all cells and registers, back", 0xFFFF000F, desk.difference(m, 0));
        Due.is("none of itself", 0, desk.difference(m, m));
        Due.is("none of itself, blank", 0, desk.difference(0, 0));
        int one = desk.answer(m, 4);
        int other = desk.answer(m, 4);
        Due.is("none of two made alike", 0, desk.difference(one, other));
    }

    private static void differenceOfNothingElse() {
        Due.by("Promise 15: only cells and registers differ, not kind, position or what was said");
        ReplayDesk desk = Due.desk(
            Due.row(Due.ASK, 0, 0), Due.row(Due.ZERO, 0, 5), Due.row(Due.SAY, 0, 0), Due.row(Due.SET, 0, 0),
            Due.row(Due.STOP, 0, 0), Due.row(Due.JUMP, 0, -1));
        desk.start();
        int lost = desk.answer(0, 0);
        int stopped = desk.answer(0, 3);
        Due.is("ASKING and LOST", 0, desk.difference(0, lost));
        Due.is("ASKING and STOPPED", 0, desk.difference(0, stopped));
        Due.is("LOST and STOPPED", 0, desk.difference(lost, stopped));
    }

    private static void differenceZeroWhenNone() {
        Due.by("Promise 15: 0 when there is no moment m or n");
        ReplayDesk desk = addingFull();
        for (int m : Due.NO_MOMENT) {
            Due.is("difference 11 " + m, 0, desk.difference(11, m));
            Due.is("difference " + m + " 11", 0, desk.difference(m, 11));
            Due.is("difference " + m + " " + m, 0, desk.difference(m, m));
        }
        for (int m = 0; m < 11; m++) {
            Due.is("difference of kept " + m, true, desk.difference(m, 11) != 0);
            desk.forget(m);
            Due.is("difference 11 and forgotten " + m, 0, desk.difference(11, m));
            Due.is("difference of forgotten " + m + " and 11", 0, desk.difference(m, 11));
            Due.is("difference of two forgotten", 0, desk.difference(m, 0));
        }
    }

    private static void looksChangeNothing() {
        Due.by("Terms: Moments never change, when they are looked at");
        Due.changesNothing("looks", MomentEdgeTest::addingFull, desk -> {
            for (int m = -1; m <= 12; m++) {
                desk.moments();
                desk.kind(m);
                desk.position(m);
                desk.peek(m, m);
                desk.peek(m, 16 + m);
                desk.said(m);
                desk.lastSaid(m, m);
                desk.difference(m, 5);
            }
        });
    }
}
