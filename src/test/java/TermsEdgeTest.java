/** The boundary cases that the document's terms name: the program, the stretch, the moment. */
public final class TermsEdgeTest {
    private static final int MIN = Integer.MIN_VALUE;
    private static final int MAX = Integer.MAX_VALUE;
    private static final int[] ANY_INT = {MIN, MIN + 1, -65536, -17, -16, -1, 0, 1, 15, 16, 17, 65536, MAX - 1, MAX};

    private TermsEdgeTest() {
    }

    public static void main(String[] args) {
        objectIsUsedFor512Calls();
        programHasAtMost16();
        registersAndCellsAreInts();
        setTakesAnyInt();
        addTakesRegisters();
        subTakesRegisters();
        sumsWrap();
        differencesWrap();
        loadByLowFourBits();
        storeByLowFourBits();
        zeroOnlyWhenZero();
        zeroGoesToAnyInt();
        jumpGoesToAnyInt();
        jumpDoesNotUseA();
        sayDoesNotUseB();
        askDoesNotUseB();
        stopUsesNeither();
        goesOnAtNextPosition();
        lostBelowZero();
        lostFromLength();
        lostInEmptyProgram();
        stoppedBeforeStop();
        askingBeforeAsk();
        tiredAfterSixty();
        firstOfTheseApplies();
        stopAndAskAreNotCarriedOut();
        sixtyInThisStretch();
        saidFromTheBeginning();
        firstStretchBeginsBlank();
        answerSetsRegisterOfAsk();
        answerBeginsAfterAsk();
        answerLeavesEverythingElse();
        keptUnderTwelveNumbers();
        momentsNeverChange();
        Due.end();
    }

    private static void objectIsUsedFor512Calls() {
        Due.by("An object is used for at most 512 calls");
        ReplayDesk desk = new ReplayDesk();
        for (int i = 0; i < 15; i++) {
            desk.emit(Due.SAY, 0, 0);
        }
        desk.emit(Due.JUMP, 0, 0);
        int last = desk.start();
        for (int i = 0; i < 247; i++) {
            int made = desk.goOn(last);
            desk.forget(last);
            last = made;
        }
        int carriedOut = 248 * 60;
        Due.is("said as the 512th call", carriedOut - carriedOut / 16, desk.said(last));
    }

    private static void programHasAtMost16() {
        Due.by("THE PROGRAM has at most 16 instructions at positions 0, 1, ..");
        for (int count = 1; count <= 16; count++) {
            ReplayDesk desk = new ReplayDesk();
            for (int i = 0; i < count; i++) {
                Due.is("emit", i, desk.emit(Due.SAY, 0, 0));
            }
            desk.start();
            Due.is(count + " are all carried out", count, desk.said(0));
            Due.is(count + " end after the last", count, desk.position(0));
        }
    }

    private static void registersAndCellsAreInts() {
        Due.by("It works on four registers 0 .. 3 and sixteen memory cells 0 .. 15 (ints)");
        int[] extremes = {MIN, -1, MAX};
        for (int v : extremes) {
            for (int register = 0; register < 4; register++) {
                ReplayDesk desk = Due.desk(Due.row(Due.SET, register, v), Due.row(Due.STOP, 0, 0));
                desk.start();
                onlyOneHolds(desk, register, v, 0);
            }
            for (int cell = 0; cell < 16; cell++) {
                ReplayDesk desk = Due.desk(
                    Due.row(Due.SET, 0, v), Due.row(Due.SET, 1, cell), Due.row(Due.STORE, 0, 1),
                    Due.row(Due.SUB, 0, 0), Due.row(Due.SUB, 1, 1), Due.row(Due.STOP, 0, 0));
                desk.start();
                onlyOneHolds(desk, 16 + cell, v, 0);
            }
        }
    }

    private static void onlyOneHolds(ReplayDesk desk, int place, int v, int m) {
        for (int i = 0; i < 32; i++) {
            Due.is("peek " + i + " when " + place + " holds " + v, i == place ? v : 0, desk.peek(m, i));
        }
    }

    private static void setTakesAnyInt() {
        Due.by("SET: register a becomes b (any int)");
        for (int b : ANY_INT) {
            ReplayDesk desk = Due.desk(Due.row(Due.SET, 3, 5), Due.row(Due.SET, 3, b));
            desk.start();
            Due.is("SET 3 " + b, b, desk.peek(0, 3));
        }
    }

    private static void addTakesRegisters() {
        Due.by("ADD: register a becomes a + b (registers)");
        twoRegisters(Due.ADD, 1);
    }

    private static void subTakesRegisters() {
        Due.by("SUB: register a becomes a - b (registers)");
        twoRegisters(Due.SUB, -1);
    }

    private static void twoRegisters(int op, int sign) {
        for (int a = 0; a < 4; a++) {
            for (int b = 0; b < 4; b++) {
                ReplayDesk desk = Due.desk(
                    Due.row(Due.SET, 0, 100), Due.row(Due.SET, 1, 1000), Due.row(Due.SET, 2, 20000),
                    Due.row(Due.SET, 3, 300000), Due.row(op, a, b));
                desk.start();
                int[] registers = {100, 1000, 20000, 300000};
                registers[a] += sign * registers[b];
                for (int i = 0; i < 4; i++) {
                    Due.is(op + " " + a + " " + b + ": register " + i, registers[i], desk.peek(0, i));
                }
            }
        }
    }

    private static int worked(int op, int x, int y) {
        ReplayDesk desk = Due.desk(Due.row(Due.SET, 1, x), Due.row(Due.SET, 2, y), Due.row(op, 1, 2));
        desk.start();
        return desk.peek(0, 1);
    }

    private static void sumsWrap() {
        Due.by("Sums and differences wrap: sums");
        Due.is("MAX + 0", MAX, worked(Due.ADD, MAX, 0));
        Due.is("MAX + 1", MIN, worked(Due.ADD, MAX, 1));
        Due.is("MAX + MAX", -2, worked(Due.ADD, MAX, MAX));
        Due.is("MIN + -1", MAX, worked(Due.ADD, MIN, -1));
        Due.is("MIN + MIN", 0, worked(Due.ADD, MIN, MIN));
        Due.is("MIN + MAX", -1, worked(Due.ADD, MIN, MAX));
    }

    private static void differencesWrap() {
        Due.by("Sums and differences wrap: differences");
        Due.is("MIN - 0", MIN, worked(Due.SUB, MIN, 0));
        Due.is("MIN - 1", MAX, worked(Due.SUB, MIN, 1));
        Due.is("MAX - -1", MIN, worked(Due.SUB, MAX, -1));
        Due.is("0 - MIN", MIN, worked(Due.SUB, 0, MIN));
        Due.is("MIN - MAX", 1, worked(Due.SUB, MIN, MAX));
        Due.is("MAX - MIN", -1, worked(Due.SUB, MAX, MIN));
    }

    private static void loadByLowFourBits() {
        Due.by("LOAD: the memory cell numbered by the low four bits of register b");
        for (int number : ANY_INT) {
            // Only the cell that is due holds 77, and it is stored under its plain number.
            ReplayDesk desk = Due.desk(
                Due.row(Due.SET, 0, 77), Due.row(Due.SET, 1, number & 15), Due.row(Due.STORE, 0, 1),
                Due.row(Due.SET, 2, number), Due.row(Due.LOAD, 3, 2), Due.row(Due.LOAD, 2, 2), Due.row(Due.STOP, 0, 0));
            desk.start();
            Due.is("LOAD by " + number, 77, desk.peek(0, 3));
            Due.is("LOAD by " + number + " over its own number", 77, desk.peek(0, 2));
            Due.is("LOAD by " + number + " leaves the cell", 77, desk.peek(0, 16 + (number & 15)));
        }
    }

    private static void storeByLowFourBits() {
        Due.by("STORE: the memory cell numbered by the low four bits of register b becomes register a");
        for (int number : ANY_INT) {
            ReplayDesk desk = Due.desk(
                Due.row(Due.SET, 0, 77), Due.row(Due.SET, 1, number), Due.row(Due.STORE, 0, 1), Due.row(Due.STOP, 0, 0));
            desk.start();
            for (int cell = 0; cell < 16; cell++) {
                Due.is("STORE by " + number + " cell " + cell, cell == (number & 15) ? 77 : 0, desk.peek(0, 16 + cell));
            }
            Due.is("STORE leaves its register", 77, desk.peek(0, 0));
            Due.is("STORE leaves its number", number, desk.peek(0, 1));
            ReplayDesk own = Due.desk(Due.row(Due.SET, 2, number), Due.row(Due.STORE, 2, 2), Due.row(Due.STOP, 0, 0));
            own.start();
            Due.is("STORE of its own number " + number, number, own.peek(0, 16 + (number & 15)));
        }
    }

    private static void zeroOnlyWhenZero() {
        Due.by("ZERO: when register a is 0");
        for (int a = 0; a < 4; a++) {
            for (int v : ANY_INT) {
                ReplayDesk desk = Due.desk(
                    Due.row(Due.SET, 0, 9 - a), Due.row(Due.SET, a, v), Due.row(Due.ZERO, a, 4),
                    Due.row(Due.STOP, 0, 0), Due.row(Due.STOP, 0, 0));
                desk.start();
                Due.is("ZERO " + a + " of " + v, v == 0 ? 4 : 3, desk.position(0));
            }
        }
    }

    private static void zeroGoesToAnyInt() {
        Due.by("ZERO: the program goes on at position b (any int)");
        for (int b : ANY_INT) {
            goesTo(Due.ZERO, b);
        }
    }

    private static void jumpGoesToAnyInt() {
        Due.by("JUMP: it goes on at position b (any int)");
        for (int b : ANY_INT) {
            goesTo(Due.JUMP, b);
        }
    }

    /** Goes from position 1 of sixteen, of which all but the first two are STOP. */
    private static void goesTo(int op, int b) {
        ReplayDesk desk = Due.desk(Due.row(Due.SAY, 0, 0), Due.row(op, 0, b));
        for (int i = 2; i < 16; i++) {
            desk.emit(Due.STOP, 0, 0);
        }
        desk.start();
        // Positions 0 and 1 are the ones that go round: 30 pairs, or one SAY and 59 turns.
        boolean round = b == 0 || b == 1;
        int kind = b < 0 || b > 15 ? ReplayDesk.LOST : round ? ReplayDesk.TIRED : ReplayDesk.STOPPED;
        Due.is(op + " to " + b + ": kind", kind, desk.kind(0));
        Due.is(op + " to " + b + ": position", b, desk.position(0));
        Due.is(op + " to " + b + ": said", b == 0 ? 30 : 1, desk.said(0));
    }

    private static void jumpDoesNotUseA() {
        Due.by("JUMP: a is not used");
        for (int a = 0; a < 4; a++) {
            ReplayDesk desk = Due.desk(
                Due.row(Due.SET, 0, 1), Due.row(Due.SET, 2, -1), Due.row(Due.JUMP, a, 4), Due.row(Due.STOP, 0, 0),
                Due.row(Due.STOP, 0, 0));
            desk.start();
            Due.is("JUMP " + a + " 4", 4, desk.position(0));
            Due.is("JUMP " + a + ": register 0", 1, desk.peek(0, 0));
            Due.is("JUMP " + a + ": register 1", 0, desk.peek(0, 1));
            Due.is("JUMP " + a + ": register 2", -1, desk.peek(0, 2));
            Due.is("JUMP " + a + ": register 3", 0, desk.peek(0, 3));
        }
    }

    private static void sayDoesNotUseB() {
        Due.by("SAY: register a is said (b is not used)");
        for (int b : ANY_INT) {
            ReplayDesk desk = Due.desk(
                Due.row(Due.SET, 3, MIN), Due.row(Due.SAY, 3, b), Due.row(Due.SAY, 0, b), Due.row(Due.STOP, 0, 0));
            desk.start();
            Due.is("SAY 3 " + b, MIN, desk.lastSaid(0, 1));
            Due.is("SAY 0 " + b, 0, desk.lastSaid(0, 0));
            Due.is("SAY twice", 2, desk.said(0));
            Due.is("SAY goes on", 3, desk.position(0));
        }
    }

    private static void askDoesNotUseB() {
        Due.by("ASK: a question (b is not used)");
        for (int b : ANY_INT) {
            ReplayDesk desk = Due.desk(Due.row(Due.ASK, 3, b), Due.row(Due.STOP, 0, 0));
            desk.start();
            Due.is("ASK 3 " + b, ReplayDesk.ASKING, desk.kind(0));
            Due.is("ASK 3 " + b + ": answer", 1, desk.answer(0, 8));
            Due.is("ASK 3 " + b + ": position", 1, desk.position(1));
            onlyOneHolds(desk, 3, 8, 1);
        }
    }

    private static void stopUsesNeither() {
        Due.by("STOP: the end (a and b are not used)");
        for (int a = 0; a < 4; a++) {
            for (int b : ANY_INT) {
                ReplayDesk desk = Due.desk(Due.row(Due.SET, 1, 4), Due.row(Due.STOP, a, b), Due.row(Due.SAY, 1, 0));
                desk.start();
                Due.is("STOP " + a + " " + b, ReplayDesk.STOPPED, desk.kind(0));
                Due.is("STOP " + a + " " + b + ": position", 1, desk.position(0));
                onlyOneHolds(desk, 1, 4, 0);
            }
        }
    }

    private static void goesOnAtNextPosition() {
        Due.by("Unless said otherwise the program goes on at the next position");
        int[] plain = {Due.SET, Due.ADD, Due.SUB, Due.LOAD, Due.STORE, Due.ZERO, Due.SAY};
        for (int op : plain) {
            for (int place = 1; place < 16; place++) {
                ReplayDesk desk = Due.desk(Due.row(Due.SET, 1, 1));
                for (int i = 1; i < place; i++) {
                    desk.emit(Due.SET, 1, 1);
                }
                desk.emit(op, 1, op == Due.SET ? 7 : 0);
                desk.start();
                Due.is(op + " at " + place, place + 1, desk.position(0));
                Due.is(op + " as the last one", ReplayDesk.LOST, desk.kind(0));
            }
        }
    }

    private static void lostBelowZero() {
        Due.by("the position is not 0 .. length() - 1: LOST, below 0");
        int[] below = {-1, -2, -16, -32, MIN + 1, MIN};
        for (int place : below) {
            lostAt(place, 16);
            lostAt(place, 1);
        }
    }

    private static void lostFromLength() {
        Due.by("the position is not 0 .. length() - 1: LOST, from length()");
        for (int length = 1; length <= 16; length++) {
            lostAt(length, length);
            lostAt(length + 1, length);
            lostAt(16, length);
            lostAt(32, length);
            lostAt(MAX, length);
        }
        for (int length = 2; length <= 16; length++) {
            ReplayDesk desk = jumping(length - 1, length);
            desk.start();
            Due.is("last of " + length, ReplayDesk.STOPPED, desk.kind(0));
            Due.is("last of " + length + ": position", length - 1, desk.position(0));
        }
        ReplayDesk shorter = jumping(15, 16);
        shorter.clear();
        shorter.emit(Due.JUMP, 0, 1);
        shorter.start();
        Due.is("behind the end of a shorter program", ReplayDesk.LOST, shorter.kind(0));
    }

    private static ReplayDesk jumping(int place, int length) {
        ReplayDesk desk = Due.desk(Due.row(Due.JUMP, 0, place));
        for (int i = 1; i < length; i++) {
            desk.emit(Due.STOP, 0, 0);
        }
        return desk;
    }

    private static void lostAt(int place, int length) {
        ReplayDesk desk = jumping(place, length);
        desk.start();
        Due.is(place + " of " + length + ": kind", ReplayDesk.LOST, desk.kind(0));
        Due.is(place + " of " + length + ": position", place, desk.position(0));
    }

    private static void lostInEmptyProgram() {
        Due.by("the position is not 0 .. length() - 1: LOST, when the program is empty");
        ReplayDesk desk = new ReplayDesk();
        Due.is("start", 0, desk.start());
        Due.is("kind", ReplayDesk.LOST, desk.kind(0));
        Due.is("position", 0, desk.position(0));
        Due.is("said", 0, desk.said(0));
        onlyOneHolds(desk, 0, 0, 0);
    }

    private static void stoppedBeforeStop() {
        Due.by("the instruction is STOP: STOPPED");
        endsBefore(Due.STOP, ReplayDesk.STOPPED);
    }

    private static void askingBeforeAsk() {
        Due.by("it is ASK: ASKING");
        endsBefore(Due.ASK, ReplayDesk.ASKING);
    }

    private static void endsBefore(int op, int kind) {
        for (int place = 0; place < 16; place++) {
            ReplayDesk desk = new ReplayDesk();
            for (int i = 0; i < place; i++) {
                desk.emit(Due.SAY, 0, 0);
            }
            desk.emit(op, 0, 0);
            for (int i = place + 1; i < 16; i++) {
                desk.emit(Due.SAY, 0, 0);
            }
            desk.start();
            Due.is(op + " at " + place + ": kind", kind, desk.kind(0));
            Due.is(op + " at " + place + ": position", place, desk.position(0));
            Due.is(op + " at " + place + ": said", place, desk.said(0));
        }
    }

    /** Carries out count instructions, 4 or more, before it comes to the given ones, which stand last. */
    private static ReplayDesk counting(int count, int[]... last) {
        int beside = (count - 1) % 3;
        ReplayDesk desk = Due.desk(
            Due.row(Due.SET, 0, (count - 1) / 3), Due.row(Due.SET, 1, 1), Due.row(Due.SUB, 0, 1),
            Due.row(Due.ZERO, 0, 5), Due.row(Due.JUMP, 0, 2));
        for (int i = 0; i < beside; i++) {
            desk.emit(Due.ADD, 2, 1);
        }
        for (int[] row : last) {
            desk.emit(row[0], row[1], row[2]);
        }
        desk.start();
        return desk;
    }

    private static void tiredAfterSixty() {
        Due.by("60 instructions were carried out in this stretch: TIRED");
        int[] say = Due.row(Due.SAY, 1, 0);
        int[] stop = Due.row(Due.STOP, 0, 0);
        ReplayDesk one = counting(59, say, stop);
        Due.is("the 60th is carried out: said", 1, one.said(0));
        Due.is("the 60th is carried out: kind", ReplayDesk.STOPPED, one.kind(0));
        ReplayDesk two = counting(59, say, say, stop);
        Due.is("the 61st is not: said", 1, two.said(0));
        Due.is("the 61st is not: kind", ReplayDesk.TIRED, two.kind(0));
        Due.is("the 61st is not: position", 7, two.position(0));
        ReplayDesk none = counting(60, say, stop);
        Due.is("sixty before it: said", 0, none.said(0));
        Due.is("sixty before it: kind", ReplayDesk.TIRED, none.kind(0));
        Due.is("sixty before it: position", 7, none.position(0));
        ReplayDesk round = Due.desk(Due.row(Due.JUMP, 0, 0));
        round.start();
        Due.is("round and round: kind", ReplayDesk.TIRED, round.kind(0));
        Due.is("round and round: position", 0, round.position(0));
    }

    private static void firstOfTheseApplies() {
        Due.by("until the first of these applies before an instruction");
        for (int count = 58; count <= 62; count++) {
            boolean tired = count > 60;
            ReplayDesk lost = counting(count);
            Due.is(count + " then lost", tired ? ReplayDesk.TIRED : ReplayDesk.LOST, lost.kind(0));
            ReplayDesk stopped = counting(count, Due.row(Due.STOP, 0, 0));
            Due.is(count + " then STOP", tired ? ReplayDesk.TIRED : ReplayDesk.STOPPED, stopped.kind(0));
            ReplayDesk asking = counting(count, Due.row(Due.ASK, 0, 0));
            Due.is(count + " then ASK", tired ? ReplayDesk.TIRED : ReplayDesk.ASKING, asking.kind(0));
        }
    }

    private static void stopAndAskAreNotCarriedOut() {
        Due.by("(STOP and ASK are not carried out.)");
        // Register 3 holds 5 before the ASK of it, and the answer begins a stretch of 60 whole instructions.
        ReplayDesk desk = Due.desk(
            Due.row(Due.SET, 3, 5), Due.row(Due.ASK, 3, 7), Due.row(Due.SAY, 3, 0), Due.row(Due.JUMP, 0, 2));
        desk.start();
        Due.is("ASK leaves its register", 5, desk.peek(0, 3));
        Due.is("ASK is where the moment is", 1, desk.position(0));
        desk.answer(0, 6);
        Due.is("ASK is none of the sixty", 30, desk.said(1));
        Due.is("ASK is none of the sixty: position", 2, desk.position(1));
        ReplayDesk stopping = Due.desk(Due.row(Due.SET, 3, 5), Due.row(Due.STOP, 3, 7));
        stopping.start();
        Due.is("STOP leaves its register", 5, stopping.peek(0, 3));
        Due.is("STOP is where the moment is", 1, stopping.position(0));
    }

    private static void sixtyInThisStretch() {
        Due.by("60 instructions were carried out in this stretch: each stretch counts anew");
        ReplayDesk desk = Due.desk(
            Due.row(Due.SAY, 0, 0), Due.row(Due.ASK, 0, 0), Due.row(Due.SAY, 0, 0), Due.row(Due.JUMP, 0, 2));
        desk.start();
        desk.answer(0, 0);
        desk.goOn(1);
        desk.goOn(2);
        Due.is("start: said", 1, desk.said(0));
        Due.is("answer: said", 31, desk.said(1));
        Due.is("goOn: said", 61, desk.said(2));
        Due.is("goOn of it: said", 91, desk.said(3));
        Due.is("goOn of it: kind", ReplayDesk.TIRED, desk.kind(3));
    }

    private static void saidFromTheBeginning() {
        Due.by("all that was said from the beginning up to it");
        ReplayDesk desk = Due.desk(
            Due.row(Due.SET, 1, -1), Due.row(Due.SAY, 1, 0), Due.row(Due.ASK, 0, 0), Due.row(Due.SAY, 0, 0),
            Due.row(Due.ZERO, 2, 6), Due.row(Due.STOP, 0, 0), Due.row(Due.JUMP, 0, 2));
        int m = desk.start();
        for (int v = 1; v <= 9; v++) {
            Due.is("said up to " + v, v, desk.said(m));
            Due.is("the first one said", v <= 8 ? -1 : 1, desk.lastSaid(m, v <= 8 ? v - 1 : 7));
            m = desk.answer(m, v);
        }
        Due.is("said at the end", 10, desk.said(m));
        Due.is("last said at the end", 9, desk.lastSaid(m, 0));
        Due.is("seven before it", 2, desk.lastSaid(m, 7));
    }

    private static void firstStretchBeginsBlank() {
        Due.by("The first stretch begins at position 0 with all registers and cells 0 and nothing said");
        ReplayDesk desk = Due.desk(
            Due.row(Due.ASK, 0, 0), Due.row(Due.SET, 3, -1), Due.row(Due.ADD, 1, 0), Due.row(Due.ADD, 2, 1),
            Due.row(Due.STORE, 2, 0), Due.row(Due.SAY, 2, 0), Due.row(Due.JUMP, 0, 0));
        int m = desk.start();
        for (int v = 1; v <= 16; v++) {
            int made = desk.answer(m, v);
            desk.forget(m);
            m = made;
        }
        Due.is("a used number", 0, m);
        desk.forgetAll();
        Due.is("start under it", 0, desk.start());
        Due.is("position", 0, desk.position(0));
        Due.is("said", 0, desk.said(0));
        for (int k = 0; k < 8; k++) {
            Due.is("lastSaid " + k, 0, desk.lastSaid(0, k));
        }
        onlyOneHolds(desk, 0, 0, 0);
    }

    private static void answerSetsRegisterOfAsk() {
        Due.by("register a of the ASK becomes v");
        for (int a = 0; a < 4; a++) {
            for (int v : ANY_INT) {
                ReplayDesk desk = Due.desk(Due.row(Due.ASK, a, 3 - a));
                desk.start();
                desk.answer(0, v);
                onlyOneHolds(desk, a, v, 1);
            }
        }
    }

    private static void answerBeginsAfterAsk() {
        Due.by("it begins at the position after the ASK");
        ReplayDesk desk = new ReplayDesk();
        for (int i = 0; i < 16; i++) {
            desk.emit(Due.ASK, i % 4, 0);
        }
        int m = desk.start();
        for (int i = 0; i < 16; i++) {
            Due.is("ASK " + i + ": kind", ReplayDesk.ASKING, desk.kind(m));
            Due.is("ASK " + i + ": position", i, desk.position(m));
            int made = desk.answer(m, 0);
            desk.forget(m);
            m = made;
        }
        Due.is("after the last: kind", ReplayDesk.LOST, desk.kind(m));
        Due.is("after the last: position", 16, desk.position(m));
    }

    private static void answerLeavesEverythingElse() {
        Due.by("with everything else as it was at that moment");
        ReplayDesk asking = Due.desk(
            Due.row(Due.SET, 0, 1), Due.row(Due.ADD, 2, 0), Due.row(Due.STORE, 2, 3), Due.row(Due.SAY, 2, 0),
            Due.row(Due.ADD, 3, 0), Due.row(Due.ASK, 1, 0), Due.row(Due.ZERO, 1, 1), Due.row(Due.STOP, 0, 0));
        int m = asking.start();
        for (int i = 0; i < 16; i++) {
            int made = asking.answer(m, 0);
            asking.forget(m);
            m = made;
        }
        // Numbers 0 and 1 have held other moments; 2 has not, so nothing can be there by chance.
        asking.start();
        int made = asking.answer(m, -1);
        Due.is("a new number", 2, made);
        Due.is("only the answer differs", 2, asking.difference(m, made));
        int[] registers = {1, -1, 17, 17};
        for (int i = 0; i < 4; i++) {
            Due.is("register " + i, registers[i], asking.peek(made, i));
        }
        for (int cell = 0; cell < 16; cell++) {
            Due.is("cell " + cell, cell == 0 ? 17 : cell + 1, asking.peek(made, 16 + cell));
        }
        Due.is("said", 17, asking.said(made));
        for (int k = 0; k < 8; k++) {
            Due.is("lastSaid " + k, 17 - k, asking.lastSaid(made, k));
        }
    }

    private static void keptUnderTwelveNumbers() {
        Due.by("Moments are kept under numbers 0 .. 11");
        ReplayDesk desk = Due.desk(Due.row(Due.SAY, 0, 0));
        for (int m = 0; m < 12; m++) {
            Due.is("start", m, desk.start());
            Due.is("moment " + m, 1, desk.said(m));
        }
        Due.is("no thirteenth", ReplayDesk.FULL, desk.start());
        Due.is("none under 12", ReplayDesk.NONE, desk.kind(12));
        Due.is("none under -1", ReplayDesk.NONE, desk.kind(-1));
    }

    private static void momentsNeverChange() {
        Due.by("Moments .. never change");
        int[][] rows = {
            Due.row(Due.ASK, 0, 0), Due.row(Due.ADD, 1, 0), Due.row(Due.STORE, 1, 0), Due.row(Due.SAY, 1, 0),
            Due.row(Due.JUMP, 0, 0)
        };
        for (int m = 0; m < 12; m++) {
            ReplayDesk before = Due.desk(rows);
            ReplayDesk after = Due.desk(rows);
            before.start();
            after.start();
            for (int i = 0; i < m; i++) {
                before.answer(i, 3 * i + 1);
                after.answer(i, 3 * i + 1);
            }
            // Everything that can be done beside moment m is done to one of the two desks.
            for (int i = 0; i < 12; i++) {
                after.answer(m, i);
            }
            for (int i = 0; i < 12; i++) {
                if (i != m) {
                    after.forget(i);
                    after.start();
                    after.answer(i, -i);
                    after.goOn(m);
                    after.emit(Due.STOP, 0, 0);
                }
            }
            Due.sameMoment("moment " + m, before, m, after, m);
        }
    }
}
