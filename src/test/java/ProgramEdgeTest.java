/** The boundary cases that promises 1 to 4 name: a new object, emit, forgetAll and clear. */
public final class ProgramEdgeTest {
    private static final int MIN = Integer.MIN_VALUE;
    private static final int MAX = Integer.MAX_VALUE;
    private static final int[] NO_REGISTER = {MIN, MIN + 1, -256, -4, -2, -1, 4, 5, 8, 16, 256, 65536, MAX - 1, MAX};
    private static final int[] NO_OPERATION = {MIN, MIN + 1, -256, -10, -2, -1, 10, 11, 16, 256, 65536, MAX - 1, MAX};

    private ProgramEdgeTest() {
    }

    public static void main(String[] args) {
        newProgramIsEmpty();
        newObjectHasNoMoments();
        emitAnswersEveryPosition();
        emitRefusesOp();
        emitRefusesA();
        emitRefusesB();
        emitTakesAnyB();
        emitFullAt16();
        emitNoneWhenMoment();
        emitNoneBeforeFull();
        emitFullBeforeMoment();
        emitWhenNoMomentIsLeft();
        refusedEmitChangesNothing();
        forgetAllForgetsAll();
        forgetAllOfNone();
        forgetAllKeepsProgram();
        clearEmptiesProgram();
        clearForgetsAll();
        clearOfNothing();
        Due.end();
    }

    private static ReplayDesk fullProgram() {
        ReplayDesk desk = new ReplayDesk();
        for (int i = 0; i < 16; i++) {
            desk.emit(Due.SAY, i % 4, 0);
        }
        return desk;
    }

    private static ReplayDesk talkative() {
        return Due.desk(
            Due.row(Due.SET, 0, 7), Due.row(Due.STORE, 0, 0), Due.row(Due.SAY, 0, 0), Due.row(Due.ASK, 1, 0),
            Due.row(Due.SAY, 1, 0), Due.row(Due.STORE, 1, 1), Due.row(Due.JUMP, 0, 3));
    }

    private static ReplayDesk talkativeWithMoments() {
        ReplayDesk desk = talkative();
        desk.start();
        for (int i = 0; i < 11; i++) {
            desk.answer(i, 10 + i);
        }
        return desk;
    }

    private static ReplayDesk fullProgramWithMoment() {
        ReplayDesk desk = fullProgram();
        desk.start();
        return desk;
    }

    private static void newProgramIsEmpty() {
        Due.by("Promise 1: An empty program");
        ReplayDesk desk = new ReplayDesk();
        Due.is("emit", 0, desk.emit(Due.SAY, 0, 0));
        ReplayDesk lost = new ReplayDesk();
        lost.start();
        Due.is("kind", ReplayDesk.LOST, lost.kind(0));
        Due.is("position", 0, lost.position(0));
    }

    private static void newObjectHasNoMoments() {
        Due.by("Promise 1: no moments");
        ReplayDesk desk = new ReplayDesk();
        Due.is("moments", 0, desk.moments());
        for (int m = 0; m < 12; m++) {
            Due.is("kind " + m, ReplayDesk.NONE, desk.kind(m));
            Due.is("position " + m, 0, desk.position(m));
            Due.is("peek " + m, 0, desk.peek(m, 0));
            Due.is("said " + m, 0, desk.said(m));
            Due.is("lastSaid " + m, 0, desk.lastSaid(m, 0));
            Due.is("difference " + m, 0, desk.difference(m, 11 - m));
            Due.is("answer " + m, ReplayDesk.NONE, desk.answer(m, 0));
            Due.is("goOn " + m, ReplayDesk.NONE, desk.goOn(m));
            Due.is("forget " + m, false, desk.forget(m));
        }
        Due.is("start", 0, desk.start());
    }

    private static void emitAnswersEveryPosition() {
        Due.by("Promise 2: Appends an instruction and answers its position");
        for (int op = 0; op <= 9; op++) {
            ReplayDesk desk = new ReplayDesk();
            for (int i = 0; i < 16; i++) {
                Due.is("emit " + op + " as number " + i, i, desk.emit(op, i % 4, i / 4));
            }
        }
        ReplayDesk desk = new ReplayDesk();
        for (int i = 0; i < 8; i++) {
            desk.emit(Due.SET, 0, 10 + i);
            desk.emit(Due.SAY, 0, 0);
        }
        desk.start();
        for (int k = 0; k < 8; k++) {
            Due.is("said " + k + " before the last", 17 - k, desk.lastSaid(0, k));
        }
    }

    private static void emitRefusesOp() {
        Due.by("Promise 2: Refused with NONE when op is not 0 .. 9");
        ReplayDesk desk = new ReplayDesk();
        for (int op : NO_OPERATION) {
            Due.is("emit " + op, ReplayDesk.NONE, desk.emit(op, 0, 0));
            Due.is("emit " + op + " 3 3", ReplayDesk.NONE, desk.emit(op, 3, 3));
        }
        for (int op = 0; op <= 9; op++) {
            Due.is("emit " + op, op, desk.emit(op, 0, 0));
        }
    }

    private static void emitRefusesA() {
        Due.by("Promise 2: Refused with NONE when .. a is not 0 .. 3");
        for (int op = 0; op <= 9; op++) {
            ReplayDesk desk = new ReplayDesk();
            for (int a : NO_REGISTER) {
                Due.is("emit " + op + " " + a, ReplayDesk.NONE, desk.emit(op, a, 0));
            }
            for (int a = 0; a <= 3; a++) {
                Due.is("emit " + op + " " + a, a, desk.emit(op, a, 0));
            }
        }
    }

    private static void emitRefusesB() {
        Due.by("Promise 2: Refused with NONE when .. op is 1 .. 4 and b is not 0 .. 3");
        for (int op = 1; op <= 4; op++) {
            ReplayDesk desk = new ReplayDesk();
            for (int b : NO_REGISTER) {
                Due.is("emit " + op + " 0 " + b, ReplayDesk.NONE, desk.emit(op, 0, b));
            }
            for (int b = 0; b <= 3; b++) {
                Due.is("emit " + op + " 0 " + b, b, desk.emit(op, 0, b));
            }
        }
    }

    private static void emitTakesAnyB() {
        Due.by("Promise 2: b is looked at when op is 1 .. 4 alone");
        int[] others = {Due.SET, Due.ZERO, Due.JUMP, Due.SAY, Due.ASK, Due.STOP};
        for (int op : others) {
            ReplayDesk desk = new ReplayDesk();
            for (int i = 0; i < NO_REGISTER.length; i++) {
                Due.is("emit " + op + " 0 " + NO_REGISTER[i], i, desk.emit(op, 0, NO_REGISTER[i]));
            }
        }
    }

    private static void emitFullAt16() {
        Due.by("Promise 2: then with FULL when 16 are there");
        for (int op = 0; op <= 9; op++) {
            ReplayDesk desk = new ReplayDesk();
            for (int i = 0; i < 15; i++) {
                desk.emit(Due.SAY, 0, 0);
            }
            Due.is("the 16th", 15, desk.emit(op, 3, 3));
            Due.is("the 17th", ReplayDesk.FULL, desk.emit(op, 3, 3));
            Due.is("the 17th again", ReplayDesk.FULL, desk.emit(op, 0, 0));
        }
    }

    private static void emitNoneWhenMoment() {
        Due.by("Promise 2: then with NONE when there is a moment");
        for (int only = 0; only < 12; only++) {
            ReplayDesk desk = Due.desk(Due.row(Due.ASK, 0, 0));
            Due.fill(desk);
            for (int m = 0; m < 12; m++) {
                if (m != only) {
                    desk.forget(m);
                }
            }
            Due.is("emit when there is only " + only, ReplayDesk.NONE, desk.emit(Due.STOP, 0, 0));
        }
        ReplayDesk empty = new ReplayDesk();
        empty.start();
        Due.is("emit when the empty program is lost", ReplayDesk.NONE, empty.emit(Due.STOP, 0, 0));
        ReplayDesk nearlyFull = new ReplayDesk();
        for (int i = 0; i < 15; i++) {
            nearlyFull.emit(Due.SAY, 0, 0);
        }
        nearlyFull.start();
        Due.is("emit when 15 are there", ReplayDesk.NONE, nearlyFull.emit(Due.STOP, 0, 0));
    }

    private static void emitNoneBeforeFull() {
        Due.by("Promise 2: Refused with NONE .. ; then with FULL");
        ReplayDesk desk = fullProgram();
        for (int round = 0; round < 2; round++) {
            Due.is("op -1", ReplayDesk.NONE, desk.emit(-1, 0, 0));
            Due.is("op 10", ReplayDesk.NONE, desk.emit(10, 0, 0));
            Due.is("a -1", ReplayDesk.NONE, desk.emit(Due.STOP, -1, 0));
            Due.is("a 4", ReplayDesk.NONE, desk.emit(Due.STOP, 4, 0));
            Due.is("b -1", ReplayDesk.NONE, desk.emit(Due.ADD, 0, -1));
            Due.is("b 4", ReplayDesk.NONE, desk.emit(Due.STORE, 0, 4));
            Due.is("nothing wrong", ReplayDesk.FULL, desk.emit(Due.STORE, 0, 3));
            desk.start();
        }
    }

    private static void emitFullBeforeMoment() {
        Due.by("Promise 2: then with FULL .. ; then with NONE when there is a moment");
        ReplayDesk desk = fullProgram();
        for (int i = 0; i < 12; i++) {
            desk.start();
            Due.is("emit when there are moments 0 .. " + i, ReplayDesk.FULL, desk.emit(Due.STOP, 0, 0));
        }
    }

    private static void emitWhenNoMomentIsLeft() {
        Due.by("Promise 2: the program can only be changed while there is none");
        ReplayDesk desk = Due.desk(Due.row(Due.SAY, 0, 0));
        desk.start();
        desk.start();
        desk.forget(0);
        Due.is("one is left", ReplayDesk.NONE, desk.emit(Due.SAY, 0, 0));
        desk.forget(1);
        Due.is("none is left", 1, desk.emit(Due.SAY, 0, 0));
        desk.start();
        Due.is("both are carried out", 2, desk.said(0));
        desk.forgetAll();
        Due.is("none is left after forgetAll", 2, desk.emit(Due.SAY, 0, 0));
        desk.start();
        desk.clear();
        Due.is("none is left after clear", 0, desk.emit(Due.SAY, 0, 0));
    }

    private static void refusedEmitChangesNothing() {
        Due.by("Promise 2: A refused call changes nothing");
        Due.changesNothing("wrong op", ProgramEdgeTest::talkative, desk -> desk.emit(10, 0, 0));
        Due.changesNothing("wrong a", ProgramEdgeTest::talkative, desk -> desk.emit(Due.SET, 4, 9));
        Due.changesNothing("wrong b", ProgramEdgeTest::talkative, desk -> desk.emit(Due.ADD, 0, 4));
        Due.changesNothing("wrong op, new object", ReplayDesk::new, desk -> desk.emit(-1, 0, 0));
        Due.changesNothing("full", ProgramEdgeTest::fullProgram, desk -> desk.emit(Due.SET, 0, 9));
        Due.changesNothing("full, moment", ProgramEdgeTest::fullProgramWithMoment, desk -> desk.emit(Due.SET, 0, 9));
        Due.changesNothing("moments", ProgramEdgeTest::talkativeWithMoments, desk -> desk.emit(Due.STOP, 0, 0));
        Due.changesNothing("wrong op, moments", ProgramEdgeTest::talkativeWithMoments, desk -> desk.emit(10, 0, 0));
    }

    private static void forgetAllForgetsAll() {
        Due.by("Promise 3: Forgets all moments");
        for (int count = 1; count <= 12; count++) {
            ReplayDesk desk = talkative();
            for (int i = 0; i < count; i++) {
                desk.start();
            }
            desk.forgetAll();
            Due.is("moments after " + count, 0, desk.moments());
            for (int m = 0; m < 12; m++) {
                Due.is("kind " + m, ReplayDesk.NONE, desk.kind(m));
                Due.is("peek " + m, 0, desk.peek(m, 0));
                Due.is("said " + m, 0, desk.said(m));
                Due.is("answer " + m, ReplayDesk.NONE, desk.answer(m, 1));
            }
            Due.is("start after " + count, 0, desk.start());
        }
    }

    private static void forgetAllOfNone() {
        Due.by("Promise 3: Forgets all moments, when there is none");
        Due.changesNothing("forgetAll of a new object", ReplayDesk::new, ReplayDesk::forgetAll);
        Due.changesNothing("forgetAll of a program", ProgramEdgeTest::talkative, ReplayDesk::forgetAll);
        Due.changesNothing("forgetAll of a full program", ProgramEdgeTest::fullProgram, ReplayDesk::forgetAll);
    }

    private static void forgetAllKeepsProgram() {
        Due.by("Promise 3: the program stays");
        ReplayDesk before = talkativeWithMoments();
        ReplayDesk after = talkativeWithMoments();
        after.forgetAll();
        after.start();
        Due.sameMoment("start after forgetAll", before, 0, after, 0);
        after.answer(0, 10);
        Due.sameMoment("answer after forgetAll", before, 1, after, 1);
        after.forgetAll();
        Due.is("emit after forgetAll", 7, after.emit(Due.STOP, 0, 0));
        ReplayDesk full = fullProgramWithMoment();
        full.forgetAll();
        Due.is("emit to a full program", ReplayDesk.FULL, full.emit(Due.STOP, 0, 0));
        full.start();
        Due.is("all sixteen are carried out", 16, full.said(0));
    }

    private static void clearEmptiesProgram() {
        Due.by("Promise 4: Empties the program");
        for (int length = 1; length <= 16; length++) {
            ReplayDesk desk = new ReplayDesk();
            for (int i = 0; i < length; i++) {
                desk.emit(Due.SAY, 0, 0);
            }
            desk.clear();
            desk.start();
            Due.is("kind after " + length, ReplayDesk.LOST, desk.kind(0));
            Due.is("position after " + length, 0, desk.position(0));
            Due.is("said after " + length, 0, desk.said(0));
            desk.clear();
            for (int i = 0; i < 16; i++) {
                Due.is("emit after " + length, i, desk.emit(Due.SAY, 0, 0));
            }
            Due.is("emit of a 17th", ReplayDesk.FULL, desk.emit(Due.SAY, 0, 0));
        }
    }

    private static void clearForgetsAll() {
        Due.by("Promise 4: forgets all moments");
        for (int count = 1; count <= 12; count++) {
            ReplayDesk desk = talkative();
            for (int i = 0; i < count; i++) {
                desk.start();
            }
            desk.clear();
            Due.is("moments after " + count, 0, desk.moments());
            for (int m = 0; m < 12; m++) {
                Due.is("kind " + m, ReplayDesk.NONE, desk.kind(m));
                Due.is("peek " + m, 0, desk.peek(m, 0));
                Due.is("answer " + m, ReplayDesk.NONE, desk.answer(m, 1));
            }
            Due.is("emit after " + count, 0, desk.emit(Due.SAY, 0, 0));
        }
    }

    private static void clearOfNothing() {
        Due.by("Promise 4: Empties the program and forgets all moments, when there is nothing");
        Due.changesNothing("clear of a new object", ReplayDesk::new, ReplayDesk::clear);
        ReplayDesk desk = talkativeWithMoments();
        desk.clear();
        desk.clear();
        Due.is("clear twice: moments", 0, desk.moments());
        Due.is("clear twice: emit", 0, desk.emit(Due.SAY, 0, 0));
    }
}
