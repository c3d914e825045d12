/** Terms, a step: every net of two cells that face each other, however their sides and the ends are joined. */
public final class SmallNetsTest {
    private static final int PORTS = 34;

    private final int[] kinds;
    private final int[] other = new int[PORTS];
    private int nets = 0;

    private SmallNetsTest(int a, int b) {
        kinds = Nets.kinds(a, b);
    }

    private boolean isThere(int p) {
        return p >= 30 || p % 3 > 0 && p < 6 && kinds[p / 3] != 2;
    }

    private int next(int p) {
        int q = p + 1;
        while (q < PORTS && !isThere(q)) {
            q++;
        }
        return q;
    }

    /** Joins p, if nothing has joined it yet, to nothing and to each of the ports behind it. */
    private void joinFrom(int p) {
        if (p >= PORTS) {
            compare();
        } else if (other[p] != 0) {
            joinFrom(next(p));
        } else {
            joinFrom(next(p));
            for (int q = next(p); q < PORTS; q = next(q)) {
                if (other[q] == 0) {
                    other[p] = q;
                    other[q] = p;
                    joinFrom(next(p));
                    other[p] = 0;
                    other[q] = 0;
                }
            }
        }
    }

    private void compare() {
        nets++;
        CellNets x = new CellNets();
        NetModel m = new NetModel(120, nets);
        String net = " of kinds " + kinds[0] + ", " + kinds[1] + ", wires 0-3";
        for (int kind : kinds) {
            x.cell(kind);
            m.cell(kind);
        }
        x.join(0, 3);
        m.join(0, 3);
        for (int p = 1; p < PORTS; p++) {
            if (other[p] > p) {
                net += " " + p + "-" + other[p];
                x.join(p, other[p]);
                m.join(p, other[p]);
            }
        }
        int steps = m.steps();
        Check.due("steps()" + net, x.steps(), steps);
        if (steps != Nets.TIRED) {
            compareWhatIsLeft(net, x, m);
        }
    }

    private static void compareWhatIsLeft(String net, CellNets x, NetModel m) {
        Check.due("loops()" + net, x.loops(), m.loops());
        Check.due("open()" + net, x.open(), m.open());
        for (int kind = 0; kind < 3; kind++) {
            Check.due("left(" + kind + ")" + net, x.left(kind), m.left(kind));
        }
        for (int e = 0; e < 4; e++) {
            Check.due("reach(" + e + ")" + net, x.reach(e), m.reach(e));
            for (int turns = 0; turns < 8; turns++) {
                Check.due("walk(" + e + ", " + turns + ")" + net, x.walk(e, turns), m.walk(e, turns));
            }
        }
    }

    public static void main(String[] args) {
        // In how many ways eight, six or four ports can be joined two by two, or left open.
        int[] ways = {764, 76, 10};
        for (int a = 0; a < 3; a++) {
            for (int b = 0; b < 3; b++) {
                SmallNetsTest t = new SmallNetsTest(a, b);
                t.joinFrom(t.next(0));
                int erasers = (a == 2 ? 1 : 0) + (b == 2 ? 1 : 0);
                Check.due("nets of kinds " + a + ", " + b, t.nets, ways[erasers]);
            }
        }
        Check.end();
    }
}
