/** All promises: many nets and runs of calls, right and wrong, against NetModel. */
public final class ModelTest {
    private static long seed = 2026;

    private CellNets x;
    private NetModel m;

    private static int pick(int bound) {
        seed = seed * 6364136223846793005L + 1442695040888963407L;
        return (int) ((seed >>> 33) % bound);
    }

    private void begin() {
        x = new CellNets();
        m = new NetModel(120, pick(1000000));
    }

    private static int anyNumber(int usual) {
        switch (pick(40)) {
            case 0: return -1 - pick(4);
            case 1: return Integer.MIN_VALUE + pick(4);
            case 2: return Integer.MAX_VALUE - pick(4);
            case 3: return usual + pick(3);
            default: return pick(usual);
        }
    }

    private void cell(int kind) {
        Check.due("cell(" + kind + ")", x.cell(kind), m.cell(kind));
    }

    private void join(int p, int q) {
        Check.due("join(" + p + ", " + q + ")", x.join(p, q), m.join(p, q));
    }

    private void cut(int p) {
        Check.due("cut(" + p + ")", x.cut(p), m.cut(p));
    }

    private void walk(int e, int turns) {
        Check.due("walk(" + e + ", " + turns + ")", x.walk(e, turns), m.walk(e, turns));
    }

    private void change() {
        switch (pick(8)) {
            case 0:
            case 1:
                cell(anyNumber(3));
                break;
            case 2:
                cut(anyNumber(34));
                break;
            case 3:
                // Heads alone, so that many cells face each other.
                join(3 * pick(10), 3 * pick(10));
                break;
            default:
                join(anyNumber(34), anyNumber(34));
                break;
        }
    }

    private void ask() {
        int n = anyNumber(4);
        switch (pick(8)) {
            case 0: Check.due("cells()", x.cells(), m.cells()); break;
            case 1: Check.due("facing()", x.facing(), m.facing()); break;
            case 2: Check.due("steps()", x.steps(), m.steps()); break;
            case 3: Check.due("left(" + n + ")", x.left(n), m.left(n)); break;
            case 4: Check.due("loops()", x.loops(), m.loops()); break;
            case 5: walk(n, anyNumber(4096)); break;
            case 6: Check.due("reach(" + n + ")", x.reach(n), m.reach(n)); break;
            default: Check.due("open()", x.open(), m.open()); break;
        }
    }

    private void askAll() {
        Check.due("cells()", x.cells(), m.cells());
        Check.due("facing()", x.facing(), m.facing());
        Check.due("steps()", x.steps(), m.steps());
        Check.due("loops()", x.loops(), m.loops());
        Check.due("open()", x.open(), m.open());
        for (int kind = 0; kind < 3; kind++) {
            Check.due("left(" + kind + ")", x.left(kind), m.left(kind));
        }
        for (int e = 0; e < 4; e++) {
            Check.due("reach(" + e + ")", x.reach(e), m.reach(e));
            walk(e, pick(8));
            walk(e, pick(4096));
        }
    }

    /** As many calls as an object is good for. */
    private void longRunOfCalls() {
        begin();
        for (int call = 0; call < 512; call++) {
            if (pick(120) == 0) {
                x.clear();
                m.clear();
            } else if (pick(3) == 0) {
                ask();
            } else {
                change();
            }
        }
    }

    private void wholeNet() {
        begin();
        for (int c = 2 + pick(9); c > 0; c--) {
            cell(pick(8) == 0 ? 2 : pick(2));
        }
        for (int i = 0; i < 10; i += 2 + pick(3)) {
            join(3 * i, 3 * i + 3);
        }
        for (int i = 0; i < 60; i++) {
            join(pick(34), pick(34));
        }
        askAll();
    }

    /** Small changes to a net of many steps, which random joining hardly ever finds. */
    private void longRunningNet(int[] kinds, int[] wires) {
        begin();
        for (int kind : kinds) {
            cell(pick(20) == 0 ? pick(3) : kind);
        }
        for (int i = 0; i < wires.length; i += 2) {
            join(wires[i], wires[i + 1]);
        }
        askAll();
        for (int round = 0; round < 4; round++) {
            cut(pick(34));
            cut(pick(34));
            for (int i = 0; i < 20; i++) {
                join(pick(34), pick(34));
            }
            askAll();
        }
    }

    public static void main(String[] args) {
        ModelTest t = new ModelTest();
        for (int i = 0; i < 100; i++) {
            t.longRunOfCalls();
        }
        for (int i = 0; i < 1000; i++) {
            t.wholeNet();
        }
        for (int i = 0; i < 40; i++) {
            t.longRunningNet(Nets.KINDS_120, Nets.WIRES_120);
            t.longRunningNet(Nets.KINDS_121, Nets.WIRES_121);
        }
        Check.end();
    }
}
