import java.util.ArrayList;
import java.util.List;

/** Long runs of made-up calls, each answer compared with a second, plain reading of the document. */
public final class ModelTest {
    private static final int RUNS = 6000;
    private static final int CALLS = 512;

    private static long seed = 20261115L;

    private ModelTest() {
    }

    public static void main(String[] args) {
        for (int run = 0; run < RUNS; run++) {
            oneRun(run);
        }
        Due.end();
    }

    /** A fixed sequence, so that a failing run is the same one every time. */
    private static int below(int bound) {
        seed = seed * 6364136223846793005L + 1442695040888963407L;
        return (int) ((seed >>> 33) % bound);
    }

    private static int anyInt() {
        switch (below(6)) {
            case 0: return Due.OUTSIDE[below(Due.OUTSIDE.length)];
            case 1: return 0;
            case 2: return below(2) - 1;
            default: return below(20);
        }
    }

    private static int momentNumber() {
        return below(20) == 0 ? anyInt() : below(13);
    }

    private static void oneRun(int run) {
        ReplayDesk desk = new ReplayDesk();
        Model model = new Model();
        int forgetful = 1 + below(8);
        int left = CALLS;
        int first = below(18);
        for (int i = 0; i < first; i++, left--) {
            emit(run, desk, model);
        }
        while (left > 0) {
            left--;
            change(run, desk, model, forgetful);
            for (int i = 0; i < 4 && left > 0; i++, left--) {
                look(run, desk, model);
            }
        }
    }

    private static void emit(int run, ReplayDesk desk, Model model) {
        int op = below(30) == 0 ? anyInt() : below(10);
        // STOP as often as the rest would end most runs at once.
        op = op == Due.STOP && below(3) != 0 ? Due.ASK : op;
        int a = below(30) == 0 ? anyInt() : below(4);
        int b = op >= Due.ADD && op <= Due.STORE && below(20) != 0 ? below(4) : anyInt();
        b = (op == Due.ZERO || op == Due.JUMP) && below(5) != 0 ? below(14) : b;
        Due.is(run + ": emit(" + op + ", " + a + ", " + b + ")", model.emit(op, a, b), desk.emit(op, a, b));
    }

    private static void change(int run, ReplayDesk desk, Model model, int forgetful) {
        int m = momentNumber();
        int choice = below(40);
        if (choice < 6) {
            Due.is(run + ": start()", model.start(), desk.start());
        } else if (choice < 22) {
            int v = anyInt();
            Due.is(run + ": answer(" + m + ", " + v + ")", model.answer(m, v), desk.answer(m, v));
        } else if (choice < 30) {
            Due.is(run + ": goOn(" + m + ")", model.goOn(m), desk.goOn(m));
        } else if (choice < 30 + forgetful) {
            Due.is(run + ": forget(" + m + ")", model.forget(m), desk.forget(m));
        } else if (choice == 38 && below(5) == 0) {
            model.forgetAll();
            desk.forgetAll();
        } else if (choice == 39 && below(10) == 0) {
            model.clear();
            desk.clear();
        } else {
            emit(run, desk, model);
        }
    }

    private static void look(int run, ReplayDesk desk, Model model) {
        int m = momentNumber();
        switch (below(7)) {
            case 0:
                Due.is(run + ": moments()", model.moments(), desk.moments());
                break;
            case 1:
                Due.is(run + ": kind(" + m + ")", model.kind(m), desk.kind(m));
                break;
            case 2:
                Due.is(run + ": position(" + m + ")", model.position(m), desk.position(m));
                break;
            case 3:
                int i = below(10) == 0 ? anyInt() : below(33);
                Due.is(run + ": peek(" + m + ", " + i + ")", model.peek(m, i), desk.peek(m, i));
                break;
            case 4:
                Due.is(run + ": said(" + m + ")", model.said(m), desk.said(m));
                break;
            case 5:
                int k = below(10) == 0 ? anyInt() : below(9);
                Due.is(run + ": lastSaid(" + m + ", " + k + ")", model.lastSaid(m, k), desk.lastSaid(m, k));
                break;
            default:
                int n = momentNumber();
                Due.is(run + ": difference(" + m + ", " + n + ")", model.difference(m, n), desk.difference(m, n));
                break;
        }
    }

    /** What a stretch came to; never changed once made. */
    private static final class Moment {
        int kind = ReplayDesk.NONE;
        int position = 0;
        int[] registers = new int[4];
        int[] memory = new int[16];
        List<Integer> said = new ArrayList<>();

        Moment copy() {
            Moment made = new Moment();
            made.position = position;
            made.registers = registers.clone();
            made.memory = memory.clone();
            made.said = new ArrayList<>(said);
            return made;
        }
    }

    private static final class Model {
        private final List<int[]> program = new ArrayList<>();
        private final Moment[] kept = new Moment[12];

        int emit(int op, int a, int b) {
            boolean usesB = op == Due.ADD || op == Due.SUB || op == Due.LOAD || op == Due.STORE;
            if (op < 0 || op > 9 || a < 0 || a > 3 || usesB && (b < 0 || b > 3)) {
                return -1;
            }
            if (program.size() == 16) {
                return -2;
            }
            if (moments() != 0) {
                return -1;
            }
            program.add(new int[] {op, a, b});
            return program.size() - 1;
        }

        void forgetAll() {
            for (int m = 0; m < 12; m++) {
                kept[m] = null;
            }
        }

        void clear() {
            program.clear();
            forgetAll();
        }

        int start() {
            return keep(new Moment());
        }

        int answer(int m, int v) {
            if (kind(m) != 2) {
                return -1;
            }
            Moment next = kept[m].copy();
            next.registers[program.get(next.position)[1]] = v;
            next.position++;
            return keep(next);
        }

        int goOn(int m) {
            return kind(m) == 3 ? keep(kept[m].copy()) : -1;
        }

        private int keep(Moment made) {
            for (int m = 0; m < 12; m++) {
                if (kept[m] == null) {
                    run(made);
                    kept[m] = made;
                    return m;
                }
            }
            return -2;
        }

        private void run(Moment x) {
            int count = 0;
            while (true) {
                if (x.position < 0 || x.position >= program.size()) {
                    x.kind = 0;
                    return;
                }
                int[] row = program.get(x.position);
                if (row[0] == Due.STOP || row[0] == Due.ASK) {
                    x.kind = row[0] == Due.STOP ? 1 : 2;
                    return;
                }
                if (count == 60) {
                    x.kind = 3;
                    return;
                }
                step(x, row[0], row[1], row[2]);
                count++;
            }
        }

        private void step(Moment x, int op, int a, int b) {
            int[] r = x.registers;
            x.position++;
            switch (op) {
                case 0 -> r[a] = b;
                case 1 -> r[a] = r[a] + r[b];
                case 2 -> r[a] = r[a] - r[b];
                case 3 -> r[a] = x.memory[Math.floorMod(r[b], 16)];
                case 4 -> x.memory[Math.floorMod(r[b], 16)] = r[a];
                case 5 -> x.position = r[a] == 0 ? b : x.position;
                case 6 -> x.position = b;
                default -> x.said.add(r[a]);
            }
        }

        boolean forget(int m) {
            boolean there = has(m);
            if (there) {
                kept[m] = null;
            }
            return there;
        }

        private boolean has(int m) {
            return m >= 0 && m < 12 && kept[m] != null;
        }

        int moments() {
            int bits = 0;
            for (int m = 0; m < 12; m++) {
                bits += kept[m] != null ? 1 << m : 0;
            }
            return bits;
        }

        int kind(int m) {
            return has(m) ? kept[m].kind : -1;
        }

        int position(int m) {
            return has(m) ? kept[m].position : 0;
        }

        int peek(int m, int i) {
            if (has(m) && i >= 0 && i <= 3) {
                return kept[m].registers[i];
            }
            return has(m) && i >= 16 && i <= 31 ? kept[m].memory[i - 16] : 0;
        }

        int said(int m) {
            return has(m) ? kept[m].said.size() : 0;
        }

        int lastSaid(int m, int k) {
            if (!has(m) || k < 0 || k > 7 || k >= said(m)) {
                return 0;
            }
            return kept[m].said.get(said(m) - 1 - k);
        }

        int difference(int m, int n) {
            int bits = 0;
            for (int i = 0; i < 32 && has(m) && has(n); i++) {
                bits |= peek(m, i) != peek(n, i) ? 1 << i : 0;
            }
            return bits;
        }
    }
}
