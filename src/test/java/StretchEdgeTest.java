/** The boundary cases that promises 5 to 7 name: start, answer and goOn. */
public final class StretchEdgeTest {
    private StretchEdgeTest() {
    }

    public static void main(String[] args) {
        startRunsFirstStretch();
        startOfEmptyProgram();
        startTakesLeastNumber();
        startFullAtTwelve();
        fullStartChangesNothing();
        answerTakesLeastNumber();
        answerNoneWhenNoMoment();
        answerNoneWhenNotAsking();
        answerNoneChangesNothing();
        answerFullAtTwelve();
        answerNoneBeforeFull();
        fullAnswerChangesNothing();
        answeredMomentStays();
        answeredAgain();
        goOnFromMomentAsItIs();
        goOnRunsOneStretch();
        goOnKeepsLikeAnswer();
        goOnNoneWhenNoMoment();
        goOnNoneWhenNotTired();
        goOnFullAtTwelve();
        goOnNoneBeforeFull();
        refusedGoOnChangesNothing();
        Due.end();
    }

    /** Moment 0 is ASKING, 1 is TIRED (answered 0), 2 is STOPPED (answered 1), and 3 is LOST (answered 2). */
    private static ReplayDesk mixed() {
        ReplayDesk desk = Due.desk(
            Due.row(Due.SET, 1, 1), Due.row(Due.ASK, 0, 0), Due.row(Due.SAY, 0, 0), Due.row(Due.STORE, 0, 0),
            Due.row(Due.ZERO, 0, 2), Due.row(Due.SUB, 0, 1), Due.row(Due.ZERO, 0, 8), Due.row(Due.JUMP, 0, -9),
            Due.row(Due.STOP, 0, 0));
        desk.start();
        desk.answer(0, 0);
        desk.answer(0, 1);
        desk.answer(0, 2);
        return desk;
    }

    private static ReplayDesk mixedFull() {
        ReplayDesk desk = mixed();
        for (int i = 4; i < 12; i++) {
            desk.answer(0, i);
        }
        return desk;
    }

    /** The numbers that are not in use are the ones of the bits. */
    private static ReplayDesk withFree(int free) {
        ReplayDesk desk = mixedFull();
        for (int m = 0; m < 12; m++) {
            if ((free & 1 << m) != 0) {
                desk.forget(m);
            }
        }
        return desk;
    }

    private static int leastOf(int bits) {
        return Integer.numberOfTrailingZeros(bits);
    }

    private static void startRunsFirstStretch() {
        Due.by("Promise 5: Runs the first stretch, whatever was run before");
        for (int m = 1; m < 12; m++) {
            ReplayDesk desk = withFree(1 << m);
            desk.start();
            Due.sameMoment("start under the used number " + m, desk, 0, desk, m);
            Due.is("kind", ReplayDesk.ASKING, desk.kind(m));
            Due.is("position", 1, desk.position(m));
            Due.is("register 1", 1, desk.peek(m, 1));
            Due.is("said", 0, desk.said(m));
        }
    }

    private static void startOfEmptyProgram() {
        Due.by("Promise 5: Runs the first stretch, when the program is empty");
        ReplayDesk desk = new ReplayDesk();
        for (int m = 0; m < 12; m++) {
            Due.is("start", m, desk.start());
            Due.is("kind", ReplayDesk.LOST, desk.kind(m));
            Due.is("position", 0, desk.position(m));
        }
        Due.is("start when full", ReplayDesk.FULL, desk.start());
    }

    private static void startTakesLeastNumber() {
        Due.by("Promise 5: keeps the moment it comes to under the least number not in use, which is answered");
        for (int free = 1; free < 4096; free++) {
            ReplayDesk desk = withFree(free);
            Due.is("start when free are " + free, leastOf(free), desk.start());
            Due.is("kept", ReplayDesk.ASKING, desk.kind(leastOf(free)));
            Due.is("moments", 4095 - free + (free & -free), desk.moments());
        }
    }

    private static void startFullAtTwelve() {
        Due.by("Promise 5: FULL .. when all twelve are in use");
        ReplayDesk desk = Due.desk(Due.row(Due.STOP, 0, 0));
        for (int i = 0; i < 12; i++) {
            Due.is("start", i, desk.start());
        }
        Due.is("the thirteenth", ReplayDesk.FULL, desk.start());
        Due.is("again", ReplayDesk.FULL, desk.start());
        for (int m = 0; m < 12; m++) {
            desk.forget(m);
            Due.is("when " + m + " is free", m, desk.start());
            Due.is("full once more", ReplayDesk.FULL, desk.start());
        }
    }

    private static void fullStartChangesNothing() {
        Due.by("Promise 5: FULL, changing nothing");
        Due.changesNothing("full start", StretchEdgeTest::mixedFull, ReplayDesk::start);
    }

    private static void answerTakesLeastNumber() {
        Due.by("Promise 6: keeps the moment it comes to under the least number not in use, which is answered");
        for (int free = 2; free < 4096; free += 2) {
            ReplayDesk desk = withFree(free);
            Due.is("answer when free are " + free, leastOf(free), desk.answer(0, -5));
            Due.is("kept", -5, desk.lastSaid(leastOf(free), 0));
            Due.is("moments", 4095 - free + (free & -free), desk.moments());
        }
    }

    private static void answerNoneWhenNoMoment() {
        Due.by("Promise 6: NONE .. when there is no moment m");
        ReplayDesk desk = Due.desk(Due.row(Due.ASK, 0, 0));
        Due.is("of a new object", ReplayDesk.NONE, desk.answer(0, 0));
        Due.fill(desk);
        desk.forget(11);
        for (int m : Due.NO_MOMENT) {
            Due.is("answer of " + m, ReplayDesk.NONE, desk.answer(m, 0));
        }
        Due.is("answer of forgotten 11", ReplayDesk.NONE, desk.answer(11, 0));
        desk.forget(0);
        Due.is("answer of forgotten 0", ReplayDesk.NONE, desk.answer(0, 0));
        Due.is("answer of kept 10", 0, desk.answer(10, 0));
    }

    private static void answerNoneWhenNotAsking() {
        Due.by("Promise 6: NONE .. when .. it is not ASKING");
        ReplayDesk desk = mixed();
        Due.is("answer of TIRED", ReplayDesk.NONE, desk.answer(1, 0));
        Due.is("answer of STOPPED", ReplayDesk.NONE, desk.answer(2, 0));
        Due.is("answer of LOST", ReplayDesk.NONE, desk.answer(3, 0));
        Due.is("answer of ASKING", 4, desk.answer(0, 0));
    }

    private static void answerNoneChangesNothing() {
        Due.by("Promise 6: NONE, changing nothing");
        Due.changesNothing("of -1", StretchEdgeTest::mixed, desk -> desk.answer(-1, 5));
        Due.changesNothing("of 4", StretchEdgeTest::mixed, desk -> desk.answer(4, 5));
        Due.changesNothing("of 12", StretchEdgeTest::mixed, desk -> desk.answer(12, 5));
        Due.changesNothing("of TIRED", StretchEdgeTest::mixed, desk -> desk.answer(1, 5));
        Due.changesNothing("of STOPPED", StretchEdgeTest::mixed, desk -> desk.answer(2, 5));
        Due.changesNothing("of LOST", StretchEdgeTest::mixed, desk -> desk.answer(3, 5));
        Due.changesNothing("of LOST, full", StretchEdgeTest::mixedFull, desk -> desk.answer(3, 5));
        Due.changesNothing("of a new object", ReplayDesk::new, desk -> desk.answer(0, 5));
    }

    private static void answerFullAtTwelve() {
        Due.by("Promise 6: then FULL .. when all twelve are in use");
        ReplayDesk desk = Due.desk(Due.row(Due.ASK, 0, 0), Due.row(Due.JUMP, 0, 0));
        desk.start();
        for (int i = 0; i < 11; i++) {
            Due.is("answer", i + 1, desk.answer(i, i));
        }
        for (int m = 0; m < 12; m++) {
            Due.is("answer of " + m + " when full", ReplayDesk.FULL, desk.answer(m, 0));
        }
        desk.forget(11);
        Due.is("when 11 is free", 11, desk.answer(0, 0));
        Due.is("full once more", ReplayDesk.FULL, desk.answer(0, 0));
    }

    private static void answerNoneBeforeFull() {
        Due.by("Promise 6: NONE .. ; then FULL");
        ReplayDesk desk = mixedFull();
        for (int m : Due.NO_MOMENT) {
            Due.is("answer of " + m + " when full", ReplayDesk.NONE, desk.answer(m, 0));
        }
        Due.is("answer of TIRED when full", ReplayDesk.NONE, desk.answer(1, 0));
        Due.is("answer of STOPPED when full", ReplayDesk.NONE, desk.answer(2, 0));
        Due.is("answer of LOST when full", ReplayDesk.NONE, desk.answer(3, 0));
        Due.is("answer of ASKING when full", ReplayDesk.FULL, desk.answer(0, 0));
    }

    private static void fullAnswerChangesNothing() {
        Due.by("Promise 6: FULL, changing nothing");
        Due.changesNothing("full answer", StretchEdgeTest::mixedFull, desk -> desk.answer(0, 77));
    }

    private static void answeredMomentStays() {
        Due.by("Promise 6: Moment m stays");
        ReplayDesk before = mixed();
        ReplayDesk after = mixed();
        for (int v = 0; v < 8; v++) {
            after.answer(0, v);
        }
        Due.is("moments", 4095, after.moments());
        Due.sameMoment("answered eight times", before, 0, after, 0);
    }

    private static void answeredAgain() {
        Due.by("Promise 6: and can be answered again");
        ReplayDesk desk = Due.desk(Due.row(Due.ASK, 0, 0), Due.row(Due.SAY, 0, 0), Due.row(Due.STORE, 0, 0));
        desk.start();
        for (int i = 1; i < 12; i++) {
            Due.is("answer " + i, i, desk.answer(0, 100 * i));
            Due.is("said by it", 1, desk.said(i));
            Due.is("last said by it", 100 * i, desk.lastSaid(i, 0));
        }
        desk.forget(5);
        desk.forget(6);
        Due.is("the same answer", 5, desk.answer(0, -1));
        Due.is("the same answer again", 6, desk.answer(0, -1));
        Due.sameMoment("the same answer twice", desk, 5, desk, 6);
    }

    /** Counts up, saying and storing each number; a second run of its beginning would count from 0 again. */
    private static ReplayDesk loudly() {
        ReplayDesk desk = Due.desk(
            Due.row(Due.SET, 0, 1), Due.row(Due.SET, 1, 0), Due.row(Due.ADD, 1, 0), Due.row(Due.SAY, 1, 0),
            Due.row(Due.STORE, 1, 1), Due.row(Due.JUMP, 3, 2));
        desk.start();
        return desk;
    }

    private static void goOnFromMomentAsItIs() {
        Due.by("Promise 7: runs one more stretch from it as it is");
        ReplayDesk desk = loudly();
        desk.goOn(0);
        // The 60th was a SAY, so each stretch ends, and the next begins, at the STORE of what was said last.
        Due.is("position of the tired one", 4, desk.position(0));
        Due.is("register 1 of the tired one", 15, desk.peek(0, 1));
        Due.is("position after it", 4, desk.position(1));
        Due.is("register 1", 30, desk.peek(1, 1));
        Due.is("register 0", 1, desk.peek(1, 0));
        for (int cell = 0; cell < 16; cell++) {
            Due.is("cell " + cell, cell <= 13 ? 16 + cell : cell, desk.peek(1, 16 + cell));
        }
        Due.is("said", 30, desk.said(1));
        for (int k = 0; k < 8; k++) {
            Due.is("lastSaid " + k, 30 - k, desk.lastSaid(1, k));
        }
    }

    private static void goOnRunsOneStretch() {
        Due.by("Promise 7: one more stretch, of 60 instructions at most");
        ReplayDesk desk = Due.desk(
            Due.row(Due.SET, 0, 40), Due.row(Due.SET, 1, 1), Due.row(Due.SUB, 0, 1), Due.row(Due.ZERO, 0, 5),
            Due.row(Due.JUMP, 0, 2), Due.row(Due.STOP, 0, 0));
        // 2 and 119 instructions: the third stretch finds the STOP after its first one.
        int first = desk.start();
        int second = desk.goOn(first);
        int third = desk.goOn(second);
        Due.is("first", ReplayDesk.TIRED, desk.kind(first));
        Due.is("second", ReplayDesk.TIRED, desk.kind(second));
        Due.is("third", ReplayDesk.STOPPED, desk.kind(third));
        Due.is("position of the second", 3, desk.position(second));
        Due.is("goOn of the third", ReplayDesk.NONE, desk.goOn(third));
    }

    private static void goOnKeepsLikeAnswer() {
        Due.by("Promise 7: keeps the moment it comes to like answer");
        for (int free = 1; free < 4096; free++) {
            if ((free & 2) == 0) {
                ReplayDesk desk = withFree(free);
                Due.is("goOn when free are " + free, leastOf(free), desk.goOn(1));
                Due.is("kept", 40, desk.said(leastOf(free)));
                Due.is("moments", 4095 - free + (free & -free), desk.moments());
                Due.is("moment 1 stays", 20, desk.said(1));
            }
        }
    }

    private static void goOnNoneWhenNoMoment() {
        Due.by("Promise 7: NONE when there is no moment m");
        ReplayDesk desk = Due.desk(Due.row(Due.JUMP, 0, 0));
        Due.is("of a new object", ReplayDesk.NONE, desk.goOn(0));
        Due.fill(desk);
        desk.forget(11);
        for (int m : Due.NO_MOMENT) {
            Due.is("goOn of " + m, ReplayDesk.NONE, desk.goOn(m));
        }
        Due.is("goOn of forgotten 11", ReplayDesk.NONE, desk.goOn(11));
        desk.forget(0);
        Due.is("goOn of forgotten 0", ReplayDesk.NONE, desk.goOn(0));
        Due.is("goOn of kept 10", 0, desk.goOn(10));
    }

    private static void goOnNoneWhenNotTired() {
        Due.by("Promise 7: NONE when .. it is not TIRED");
        ReplayDesk desk = mixed();
        Due.is("goOn of ASKING", ReplayDesk.NONE, desk.goOn(0));
        Due.is("goOn of STOPPED", ReplayDesk.NONE, desk.goOn(2));
        Due.is("goOn of LOST", ReplayDesk.NONE, desk.goOn(3));
        Due.is("goOn of TIRED", 4, desk.goOn(1));
    }

    private static void goOnFullAtTwelve() {
        Due.by("Promise 7: then FULL");
        ReplayDesk desk = loudly();
        for (int i = 0; i < 11; i++) {
            Due.is("goOn", i + 1, desk.goOn(i));
        }
        for (int m = 0; m < 12; m++) {
            Due.is("goOn of " + m + " when full", ReplayDesk.FULL, desk.goOn(m));
        }
        desk.forget(11);
        Due.is("when 11 is free", 11, desk.goOn(0));
        Due.is("full once more", ReplayDesk.FULL, desk.goOn(0));
    }

    private static void goOnNoneBeforeFull() {
        Due.by("Promise 7: NONE .. ; then FULL");
        ReplayDesk desk = mixedFull();
        for (int m : Due.NO_MOMENT) {
            Due.is("goOn of " + m + " when full", ReplayDesk.NONE, desk.goOn(m));
        }
        Due.is("goOn of ASKING when full", ReplayDesk.NONE, desk.goOn(0));
        Due.is("goOn of STOPPED when full", ReplayDesk.NONE, desk.goOn(2));
        Due.is("goOn of LOST when full", ReplayDesk.NONE, desk.goOn(3));
        Due.is("goOn of TIRED when full", ReplayDesk.FULL, desk.goOn(1));
    }

    private static void refusedGoOnChangesNothing() {
        Due.by("Promise 7: NONE and FULL change nothing");
        Due.changesNothing("of -1", StretchEdgeTest::mixed, desk -> desk.goOn(-1));
        Due.changesNothing("of 4", StretchEdgeTest::mixed, desk -> desk.goOn(4));
        Due.changesNothing("of 12", StretchEdgeTest::mixed, desk -> desk.goOn(12));
        Due.changesNothing("of ASKING", StretchEdgeTest::mixed, desk -> desk.goOn(0));
        Due.changesNothing("of STOPPED", StretchEdgeTest::mixed, desk -> desk.goOn(2));
        Due.changesNothing("of LOST", StretchEdgeTest::mixed, desk -> desk.goOn(3));
        Due.changesNothing("full", StretchEdgeTest::mixedFull, desk -> desk.goOn(1));
        Due.changesNothing("of a new object", ReplayDesk::new, desk -> desk.goOn(0));
    }
}
