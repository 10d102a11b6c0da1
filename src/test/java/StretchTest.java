/** The terms and promises 5 to 7: what a stretch does, start, answer and goOn. */
public final class StretchTest {
    private StretchTest() {
    }

    public static void main(String[] args) {
        setAddSub();
        sameRegisterTwice();
        loadAndStoreDoOneThing();
        memoryByLowBits();
        zeroAndJump();
        sayAndUnusedNumbers();
        lostPlaces();
        sixtyIsTheMost();
        tiredComesLast();
        startIsAlwaysFresh();
        startTakesLeastNumber();
        answerBranches();
        answerGoesOnAfterAsk();
        answerRefuses();
        answerCountsNoInstruction();
        goOnRunsOneStretch();
        goOnRefuses();
        Due.end();
    }

    private static void setAddSub() {
        ReplayDesk desk = Due.desk(
            Due.row(Due.SET, 0, Integer.MAX_VALUE), Due.row(Due.SET, 1, 2), Due.row(Due.ADD, 0, 1),
            Due.row(Due.SET, 2, Integer.MIN_VALUE), Due.row(Due.SUB, 2, 1), Due.row(Due.SET, 3, 5),
            Due.row(Due.SUB, 3, 1), Due.row(Due.STOP, 0, 0));
        desk.start();
        Due.is("sum wraps", Integer.MIN_VALUE + 1, desk.peek(0, 0));
        Due.is("added register stays", 2, desk.peek(0, 1));
        Due.is("difference wraps", Integer.MAX_VALUE - 1, desk.peek(0, 2));
        Due.is("difference", 3, desk.peek(0, 3));
        Due.is("stopped at", 7, desk.position(0));
    }

    private static void sameRegisterTwice() {
        ReplayDesk desk = Due.desk(
            Due.row(Due.SET, 0, 21), Due.row(Due.ADD, 0, 0), Due.row(Due.STORE, 0, 0), Due.row(Due.SET, 1, 10),
            Due.row(Due.LOAD, 1, 1), Due.row(Due.SET, 2, 9), Due.row(Due.SUB, 2, 2), Due.row(Due.STOP, 0, 0));
        desk.start();
        Due.is("a + a", 42, desk.peek(0, 0));
        Due.is("stored under its own low bits", 42, desk.peek(0, 26));
        Due.is("loaded over its own number", 42, desk.peek(0, 1));
        Due.is("a - a", 0, desk.peek(0, 2));
    }

    private static void loadAndStoreDoOneThing() {
        ReplayDesk desk = Due.desk(
            Due.row(Due.SET, 0, 5), Due.row(Due.SET, 1, 3), Due.row(Due.STORE, 0, 1), Due.row(Due.LOAD, 1, 1),
            Due.row(Due.STORE, 2, 3), Due.row(Due.STOP, 0, 0));
        desk.start();
        Due.is("loaded", 5, desk.peek(0, 1));
        Due.is("load leaves its cell", 5, desk.peek(0, 19));
        Due.is("load writes no cell", 0, desk.peek(0, 21));
        Due.is("store of 0 goes on at the next position", 5, desk.position(0));
        Due.is("store of 0 writes 0", 0, desk.peek(0, 16));
    }

    private static void memoryByLowBits() {
        ReplayDesk desk = Due.desk(
            Due.row(Due.ASK, 1, 0), Due.row(Due.SET, 0, 77), Due.row(Due.STORE, 0, 1), Due.row(Due.LOAD, 2, 1),
            Due.row(Due.STOP, 0, 0));
        desk.start();
        int[] numbers = {0, 15, 16, -1, -16, Integer.MIN_VALUE, Integer.MAX_VALUE, 0x12345678};
        int[] cells = {0, 15, 0, 15, 0, 0, 15, 8};
        for (int i = 0; i < numbers.length; i++) {
            int m = desk.answer(0, numbers[i]);
            for (int cell = 0; cell < 16; cell++) {
                Due.is("store by " + numbers[i] + " cell " + cell, cell == cells[i] ? 77 : 0, desk.peek(m, 16 + cell));
            }
            Due.is("load by " + numbers[i], 77, desk.peek(m, 2));
        }
    }

    private static void zeroAndJump() {
        ReplayDesk desk = Due.desk(
            Due.row(Due.ASK, 3, 0), Due.row(Due.ZERO, 3, 5), Due.row(Due.SAY, 3, 0), Due.row(Due.JUMP, 3, 6),
            Due.row(Due.SAY, 0, 0), Due.row(Due.STOP, 0, 0), Due.row(Due.STOP, 1, 1));
        desk.start();
        int[] answers = {0, 1, -1, Integer.MIN_VALUE};
        for (int v : answers) {
            int m = desk.answer(0, v);
            Due.is("zero " + v + " position", v == 0 ? 5 : 6, desk.position(m));
            Due.is("zero " + v + " said", v == 0 ? 0 : 1, desk.said(m));
            Due.is("zero " + v + " last said", v, desk.lastSaid(m, 0));
        }
    }

    private static void sayAndUnusedNumbers() {
        ReplayDesk desk = Due.desk(
            Due.row(Due.SET, 2, 9), Due.row(Due.SAY, 2, Integer.MAX_VALUE), Due.row(Due.JUMP, 2, 3),
            Due.row(Due.ASK, 2, Integer.MIN_VALUE), Due.row(Due.STOP, 3, -77));
        desk.start();
        Due.is("said", 9, desk.lastSaid(0, 0));
        Due.is("asking", ReplayDesk.ASKING, desk.kind(0));
        Due.is("ask is not carried out", 9, desk.peek(0, 2));
        Due.is("answer", 1, desk.answer(0, 4));
        Due.is("answered register", 4, desk.peek(1, 2));
        Due.is("stopped", ReplayDesk.STOPPED, desk.kind(1));
        Due.is("stop changes no register", 0, desk.peek(1, 3));
    }

    private static void lostPlaces() {
        int[] places = {Integer.MIN_VALUE, -1, 2, 3, 15, 16, Integer.MAX_VALUE};
        for (int place : places) {
            ReplayDesk jumping = Due.desk(Due.row(Due.JUMP, 0, place), Due.row(Due.STOP, 0, 0));
            jumping.start();
            Due.is("jump to " + place, ReplayDesk.LOST, jumping.kind(0));
            Due.is("lost at", place, jumping.position(0));
            ReplayDesk testing = Due.desk(Due.row(Due.ZERO, 1, place), Due.row(Due.STOP, 0, 0));
            testing.start();
            Due.is("zero to " + place, ReplayDesk.LOST, testing.kind(0));
            Due.is("lost at", place, testing.position(0));
        }
        // Instructions left behind by clear must not be run.
        ReplayDesk desk = Due.desk(Due.row(Due.STOP, 0, 0), Due.row(Due.STOP, 0, 0));
        desk.clear();
        desk.emit(Due.JUMP, 0, 1);
        desk.start();
        Due.is("jump behind the end", ReplayDesk.LOST, desk.kind(0));
        Due.is("lost behind the end", 1, desk.position(0));
    }

    /** Carries out exactly count instructions and then comes to the last one; at least 12, and a multiple of 3. */
    private static ReplayDesk counting(int count, int[] last) {
        ReplayDesk desk = new ReplayDesk();
        int turns = (count - 6) / 3;
        desk.emit(Due.SET, 0, turns);
        desk.emit(Due.SET, 1, 1);
        desk.emit(Due.SUB, 0, 1);
        desk.emit(Due.ZERO, 0, 5);
        desk.emit(Due.JUMP, 0, 2);
        // 2 before the turns, 3 * turns - 1 in them, and 5 after.
        for (int i = 0; i < 5; i++) {
            desk.emit(Due.ADD, 2, 1);
        }
        if (last != null) {
            desk.emit(last[0], last[1], last[2]);
        }
        return desk;
    }

    private static void sixtyIsTheMost() {
        ReplayDesk desk = counting(60, Due.row(Due.SAY, 2, 0));
        desk.start();
        Due.is("sixty: kind", ReplayDesk.TIRED, desk.kind(0));
        Due.is("sixty: position", 10, desk.position(0));
        Due.is("sixty: not said", 0, desk.said(0));
        Due.is("sixty: register", 5, desk.peek(0, 2));
        ReplayDesk shorter = counting(57, Due.row(Due.SAY, 2, 0));
        shorter.start();
        Due.is("fifty-eight: kind", ReplayDesk.LOST, shorter.kind(0));
        Due.is("fifty-eight: said", 1, shorter.said(0));
        ReplayDesk still = Due.desk(Due.row(Due.JUMP, 0, 0));
        still.start();
        Due.is("endless jump", ReplayDesk.TIRED, still.kind(0));
    }

    private static void tiredComesLast() {
        ReplayDesk lost = counting(60, null);
        lost.start();
        Due.is("sixty then the end", ReplayDesk.LOST, lost.kind(0));
        Due.is("sixty then the end: position", 10, lost.position(0));
        ReplayDesk stopped = counting(60, Due.row(Due.STOP, 0, 0));
        stopped.start();
        Due.is("sixty then stop", ReplayDesk.STOPPED, stopped.kind(0));
        ReplayDesk asking = counting(60, Due.row(Due.ASK, 0, 0));
        asking.start();
        Due.is("sixty then ask", ReplayDesk.ASKING, asking.kind(0));
        Due.is("sixty then ask: answer", 1, asking.answer(0, 8));
        ReplayDesk late = counting(63, Due.row(Due.STOP, 0, 0));
        late.start();
        Due.is("sixty-three then stop", ReplayDesk.TIRED, late.kind(0));
        Due.is("sixty-three then stop: goOn", 1, late.goOn(0));
        Due.is("sixty-three then stop: after", ReplayDesk.STOPPED, late.kind(1));
    }

    private static void startIsAlwaysFresh() {
        ReplayDesk desk = Due.desk(
            Due.row(Due.ASK, 0, 0), Due.row(Due.STORE, 0, 0), Due.row(Due.SAY, 0, 0), Due.row(Due.JUMP, 0, 0));
        desk.start();
        for (int i = 0; i < 11; i++) {
            desk.answer(i, 31 + i);
        }
        for (int m = 0; m < 12; m++) {
            desk.forget(m);
            Due.is("start again", m, desk.start());
            for (int i = 0; i < 32; i++) {
                Due.is("fresh " + i, 0, desk.peek(m, i));
            }
            Due.is("fresh said", 0, desk.said(m));
            Due.is("fresh last said", 0, desk.lastSaid(m, 0));
            Due.is("fresh kind", ReplayDesk.ASKING, desk.kind(m));
            Due.is("fresh position", 0, desk.position(m));
        }
    }

    private static void startTakesLeastNumber() {
        ReplayDesk desk = Due.desk(Due.row(Due.STOP, 0, 0));
        for (int i = 0; i < 12; i++) {
            Due.is("start " + i, i, desk.start());
        }
        Due.is("start when full", ReplayDesk.FULL, desk.start());
        Due.is("full changes nothing", 4095, desk.moments());
        desk.forget(11);
        desk.forget(3);
        desk.forget(6);
        Due.is("least free", 3, desk.start());
        Due.is("next least free", 6, desk.start());
        Due.is("last free", 11, desk.start());
        Due.is("full again", ReplayDesk.FULL, desk.start());
    }

    private static void answerBranches() {
        ReplayDesk desk = Due.desk(
            Due.row(Due.ASK, 0, 0), Due.row(Due.ADD, 1, 0), Due.row(Due.STORE, 1, 0), Due.row(Due.SAY, 1, 0),
            Due.row(Due.JUMP, 0, 0));
        desk.start();
        Due.is("first answer", 1, desk.answer(0, 3));
        Due.is("second answer", 2, desk.answer(0, 4));
        Due.is("answer of an answer", 3, desk.answer(1, 5));
        Due.is("other answer of it", 4, desk.answer(1, 5));
        Due.is("question stays", ReplayDesk.ASKING, desk.kind(0));
        Due.is("its register stays", 0, desk.peek(0, 0));
        Due.is("its said stays", 0, desk.said(0));
        Due.is("branch 1", 3, desk.peek(1, 1));
        Due.is("branch 2", 4, desk.peek(2, 1));
        Due.is("branch 3", 8, desk.peek(3, 1));
        Due.is("branch 3 keeps cell 3", 3, desk.peek(3, 19));
        Due.is("branch 3 has cell 5", 8, desk.peek(3, 21));
        Due.is("branch 1 has no cell 5", 0, desk.peek(1, 21));
        Due.is("same answers, same moment", 0, desk.difference(3, 4));
        Due.is("said goes on", 2, desk.said(3));
        Due.is("last said", 8, desk.lastSaid(3, 0));
        Due.is("said before", 3, desk.lastSaid(3, 1));
        Due.is("branch 1 said stays", 1, desk.said(1));
        Due.is("branch 1 last said stays", 3, desk.lastSaid(1, 0));
        desk.forget(0);
        Due.is("answer under the forgotten number", 0, desk.answer(2, 1));
        Due.is("answered there", 5, desk.peek(0, 1));
    }

    private static void answerGoesOnAfterAsk() {
        for (int a = 0; a < 4; a++) {
            ReplayDesk desk = new ReplayDesk();
            for (int i = 0; i < 15; i++) {
                desk.emit(Due.SET, a, i);
            }
            desk.emit(Due.ASK, a, 0);
            desk.start();
            Due.is("ask at the end", 15, desk.position(0));
            Due.is("answer at the end", 1, desk.answer(0, Integer.MIN_VALUE));
            Due.is("lost after the ask", ReplayDesk.LOST, desk.kind(1));
            Due.is("lost at", 16, desk.position(1));
            for (int i = 0; i < 4; i++) {
                Due.is("register " + i, i == a ? Integer.MIN_VALUE : 0, desk.peek(1, i));
            }
            Due.is("only that register", 1 << a, desk.difference(0, 1));
        }
    }

    private static void answerRefuses() {
        ReplayDesk desk = Due.desk(Due.row(Due.ASK, 0, 0), Due.row(Due.ZERO, 0, 1), Due.row(Due.STOP, 0, 0));
        Due.is("answer with no moment", ReplayDesk.NONE, desk.answer(0, 1));
        desk.start();
        Due.is("stopped", 1, desk.answer(0, 1));
        Due.is("tired", 2, desk.answer(0, 0));
        Due.is("answer of stopped", ReplayDesk.NONE, desk.answer(1, 1));
        Due.is("answer of tired", ReplayDesk.NONE, desk.answer(2, 1));
        Due.is("answer of none", ReplayDesk.NONE, desk.answer(3, 1));
        Due.is("answer of 12", ReplayDesk.NONE, desk.answer(12, 1));
        for (int m : Due.OUTSIDE) {
            Due.is("answer of " + m, ReplayDesk.NONE, desk.answer(m, 1));
        }
        Due.is("refusals change nothing", 7, desk.moments());
        Due.fill(desk);
        Due.is("full answer", ReplayDesk.FULL, desk.answer(0, 5));
        Due.is("full answer of stopped", ReplayDesk.NONE, desk.answer(1, 5));
        Due.is("full answer of tired", ReplayDesk.NONE, desk.answer(2, 5));
        Due.is("full answer of 12", ReplayDesk.NONE, desk.answer(12, 5));
        Due.is("full answer of -1", ReplayDesk.NONE, desk.answer(-1, 5));
        for (int m = 0; m < 12; m++) {
            Due.is("full changes no register of " + m, m == 1 ? 1 : 0, desk.peek(m, 0));
        }
        desk.forget(0);
        Due.is("answer of a forgotten one", ReplayDesk.NONE, desk.answer(0, 5));
        ReplayDesk lost = new ReplayDesk();
        lost.start();
        Due.is("answer of lost", ReplayDesk.NONE, lost.answer(0, 5));
    }

    private static void answerCountsNoInstruction() {
        ReplayDesk desk = Due.desk(
            Due.row(Due.SET, 1, 1), Due.row(Due.ASK, 0, 0), Due.row(Due.ADD, 2, 1), Due.row(Due.SAY, 2, 0),
            Due.row(Due.JUMP, 0, 2));
        desk.start();
        desk.answer(0, 0);
        Due.is("sixty after the answer: kind", ReplayDesk.TIRED, desk.kind(1));
        Due.is("sixty after the answer: said", 20, desk.said(1));
        Due.is("sixty after the answer: position", 2, desk.position(1));
    }

    private static void goOnRunsOneStretch() {
        ReplayDesk desk = Due.desk(
            Due.row(Due.SET, 0, 1), Due.row(Due.ADD, 1, 0), Due.row(Due.SAY, 1, 0), Due.row(Due.STORE, 1, 1),
            Due.row(Due.JUMP, 0, 1));
        desk.start();
        Due.is("start: said", 15, desk.said(0));
        Due.is("start: position", 4, desk.position(0));
        Due.is("goOn", 1, desk.goOn(0));
        Due.is("goOn again", 2, desk.goOn(0));
        Due.is("goOn of it", 3, desk.goOn(2));
        Due.is("tired stays", 15, desk.peek(0, 1));
        Due.is("tired stays in position", 4, desk.position(0));
        Due.is("one stretch more", 30, desk.peek(1, 1));
        Due.is("said", 30, desk.said(1));
        Due.is("twice the same", 0, desk.difference(1, 2));
        Due.is("two stretches more", 45, desk.peek(3, 1));
        Due.is("memory goes on", 32, desk.peek(3, 16));
        Due.is("last said", 45, desk.lastSaid(3, 0));
        Due.is("seven before", 38, desk.lastSaid(3, 7));
        desk.forget(0);
        Due.is("least free", 0, desk.goOn(3));
        Due.is("under it", 60, desk.peek(0, 1));
    }

    private static void goOnRefuses() {
        ReplayDesk desk = Due.desk(Due.row(Due.ASK, 0, 0), Due.row(Due.ZERO, 0, 1), Due.row(Due.STOP, 0, 0));
        Due.is("goOn with no moment", ReplayDesk.NONE, desk.goOn(0));
        desk.start();
        desk.answer(0, 1);
        desk.answer(0, 0);
        Due.is("goOn of asking", ReplayDesk.NONE, desk.goOn(0));
        Due.is("goOn of stopped", ReplayDesk.NONE, desk.goOn(1));
        Due.is("goOn of none", ReplayDesk.NONE, desk.goOn(3));
        Due.is("goOn of 12", ReplayDesk.NONE, desk.goOn(12));
        for (int m : Due.OUTSIDE) {
            Due.is("goOn of " + m, ReplayDesk.NONE, desk.goOn(m));
        }
        Due.is("refusals change nothing", 7, desk.moments());
        Due.fill(desk);
        Due.is("full goOn", ReplayDesk.FULL, desk.goOn(2));
        Due.is("full goOn of asking", ReplayDesk.NONE, desk.goOn(0));
        Due.is("full goOn of stopped", ReplayDesk.NONE, desk.goOn(1));
        Due.is("full goOn of 12", ReplayDesk.NONE, desk.goOn(12));
        Due.is("full changes nothing", 4095, desk.moments());
        desk.forget(2);
        Due.is("goOn of a forgotten one", ReplayDesk.NONE, desk.goOn(2));
        ReplayDesk lost = new ReplayDesk();
        lost.start();
        Due.is("goOn of lost", ReplayDesk.NONE, lost.goOn(0));
    }
}
