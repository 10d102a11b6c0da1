/** Promises 1 to 4: a new object, emit, forgetAll and clear. */
public final class ProgramTest {
    private ProgramTest() {
    }

    public static void main(String[] args) {
        newObject();
        objectsAreApart();
        emitAnswersPositions();
        emitRefusesWrongNumbers();
        emitTakesAnyUnusedNumber();
        emitRefusesInOrder();
        emitWaitsForLastMoment();
        refusedEmitChangesNothing();
        forgetAllKeepsProgram();
        clearEmptiesBoth();
        Due.end();
    }

    private static void newObject() {
        ReplayDesk desk = new ReplayDesk();
        Due.is("new: moments", 0, desk.moments());
        for (int m = -1; m <= 12; m++) {
            Due.is("new: kind " + m, ReplayDesk.NONE, desk.kind(m));
        }
        Due.is("new: start", 0, desk.start());
        Due.is("new: empty program is lost", ReplayDesk.LOST, desk.kind(0));
        Due.is("new: position", 0, desk.position(0));
        Due.is("new: forget", true, desk.forget(0));
        Due.is("new: first emit", 0, desk.emit(Due.STOP, 0, 0));
    }

    private static void objectsAreApart() {
        ReplayDesk one = Due.desk(Due.row(Due.ASK, 0, 0));
        ReplayDesk other = new ReplayDesk();
        one.start();
        Due.is("apart: moments", 0, other.moments());
        Due.is("apart: emit", 0, other.emit(Due.STOP, 0, 0));
        other.start();
        Due.is("apart: one", ReplayDesk.ASKING, one.kind(0));
        Due.is("apart: other", ReplayDesk.STOPPED, other.kind(0));
    }

    private static void emitAnswersPositions() {
        ReplayDesk desk = new ReplayDesk();
        for (int i = 0; i < 16; i++) {
            Due.is("emit " + i, i, desk.emit(i % 10, i % 4, i % 4));
        }
        Due.is("emit seventeenth", ReplayDesk.FULL, desk.emit(Due.STOP, 0, 0));
        Due.is("emit eighteenth", ReplayDesk.FULL, desk.emit(Due.SET, 3, 99));
    }

    private static void emitRefusesWrongNumbers() {
        ReplayDesk desk = new ReplayDesk();
        Due.is("emit op 10", ReplayDesk.NONE, desk.emit(10, 0, 0));
        for (int number : Due.OUTSIDE) {
            Due.is("emit op " + number, ReplayDesk.NONE, desk.emit(number, 0, 0));
            for (int op = 0; op <= 9; op++) {
                Due.is("emit " + op + " a " + number, ReplayDesk.NONE, desk.emit(op, number, 0));
            }
            for (int op = Due.ADD; op <= Due.STORE; op++) {
                Due.is("emit " + op + " b " + number, ReplayDesk.NONE, desk.emit(op, 0, number));
            }
        }
        for (int op = 0; op <= 9; op++) {
            Due.is("emit " + op + " a 4", ReplayDesk.NONE, desk.emit(op, 4, 0));
        }
        for (int op = Due.ADD; op <= Due.STORE; op++) {
            Due.is("emit " + op + " b 4", ReplayDesk.NONE, desk.emit(op, 3, 4));
        }
        Due.is("emit after refusals", 0, desk.emit(Due.STOP, 3, 0));
    }

    private static void emitTakesAnyUnusedNumber() {
        int[] free = {Due.SET, Due.ZERO, Due.JUMP, Due.SAY, Due.ASK, Due.STOP};
        int[] numbers = {Integer.MIN_VALUE, -1, 4, 16, Integer.MAX_VALUE};
        for (int number : numbers) {
            ReplayDesk desk = new ReplayDesk();
            for (int i = 0; i < free.length; i++) {
                Due.is("emit " + free[i] + " b " + number, i, desk.emit(free[i], 3, number));
            }
        }
        ReplayDesk desk = new ReplayDesk();
        for (int op = Due.ADD; op <= Due.STORE; op++) {
            Due.is("emit " + op + " at its edges", op - 1, desk.emit(op, 3, 3));
        }
    }

    private static void emitRefusesInOrder() {
        ReplayDesk desk = new ReplayDesk();
        for (int i = 0; i < 16; i++) {
            desk.emit(Due.STOP, 0, 0);
        }
        Due.is("full: wrong op first", ReplayDesk.NONE, desk.emit(10, 0, 0));
        Due.is("full: wrong a first", ReplayDesk.NONE, desk.emit(Due.STOP, 4, 0));
        Due.is("full: wrong b first", ReplayDesk.NONE, desk.emit(Due.LOAD, 0, -1));
        desk.start();
        Due.is("full before moment", ReplayDesk.FULL, desk.emit(Due.STOP, 0, 0));
        Due.is("wrong op before full and moment", ReplayDesk.NONE, desk.emit(-1, 0, 0));
    }

    private static void emitWaitsForLastMoment() {
        ReplayDesk desk = Due.desk(Due.row(Due.STOP, 0, 0));
        Due.fill(desk);
        for (int m = 0; m < 12; m++) {
            Due.is("emit with moments from " + m, ReplayDesk.NONE, desk.emit(Due.SAY, 0, 0));
            desk.forget(m);
        }
        Due.is("emit with none left", 1, desk.emit(Due.SAY, 0, 0));
    }

    private static void refusedEmitChangesNothing() {
        ReplayDesk desk = Due.desk(Due.row(Due.SET, 1, 7));
        desk.start();
        Due.is("refused by moment", ReplayDesk.NONE, desk.emit(Due.STOP, 0, 0));
        Due.is("moments stay", 1, desk.moments());
        desk.start();
        Due.is("length stays: kind", ReplayDesk.LOST, desk.kind(1));
        Due.is("length stays: position", 1, desk.position(1));
        Due.is("register", 7, desk.peek(1, 1));
    }

    private static void forgetAllKeepsProgram() {
        ReplayDesk desk = Due.desk(Due.row(Due.SET, 2, -5), Due.row(Due.SAY, 2, 0), Due.row(Due.STOP, 0, 0));
        desk.forgetAll();
        Due.is("forgetAll of none", 0, desk.moments());
        Due.fill(desk);
        desk.forgetAll();
        Due.is("forgetAll of twelve", 0, desk.moments());
        for (int m = 0; m < 12; m++) {
            Due.is("forgotten kind", ReplayDesk.NONE, desk.kind(m));
            Due.is("forgotten peek", 0, desk.peek(m, 2));
            Due.is("forgotten said", 0, desk.said(m));
            Due.is("forgotten forget", false, desk.forget(m));
        }
        Due.is("forgetAll: start", 0, desk.start());
        Due.is("forgetAll: program runs", ReplayDesk.STOPPED, desk.kind(0));
        Due.is("forgetAll: position", 2, desk.position(0));
        Due.is("forgetAll: said", 1, desk.said(0));
        desk.forgetAll();
        Due.is("forgetAll: emit", 3, desk.emit(Due.STOP, 0, 0));
    }

    private static void clearEmptiesBoth() {
        ReplayDesk desk = new ReplayDesk();
        for (int i = 0; i < 16; i++) {
            desk.emit(Due.SAY, 0, 0);
        }
        Due.fill(desk);
        desk.clear();
        Due.is("clear: moments", 0, desk.moments());
        Due.is("clear: kind", ReplayDesk.NONE, desk.kind(0));
        Due.is("clear: start", 0, desk.start());
        Due.is("clear: lost", ReplayDesk.LOST, desk.kind(0));
        Due.is("clear: nothing said", 0, desk.said(0));
        desk.clear();
        for (int i = 0; i < 16; i++) {
            Due.is("clear: emit " + i, i, desk.emit(Due.STOP, 0, 0));
        }
        Due.is("clear: full again", ReplayDesk.FULL, desk.emit(Due.STOP, 0, 0));
    }
}
