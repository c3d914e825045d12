/** Terms: cells, kinds, ports, ends and wires. */
public final class TermsPortsTest {
    private static final int[] TEN_PAIRS = {0, 1, 0, 1, 0, 1, 0, 1, 0, 1};

    private static void threePorts(int kind) {
        CellNets x = Nets.of(Nets.kinds(kind), 0, 30, 1, 31, 2, 32);
        for (int s = 0; s < 3; s++) {
            Check.due("walk(" + s + ", 0)", x.walk(s, 0), 3 * kind + s);
        }
        Check.due("join(3, 33)", x.join(3, 33), Nets.BAD_ARG);
        Check.due("open()", x.open(), 0);
    }

    private static void headOnly() {
        CellNets x = Nets.of(Nets.kinds(2));
        Check.due("join(1, 30)", x.join(1, 30), Nets.BAD_ARG);
        Check.due("join(2, 30)", x.join(2, 30), Nets.BAD_ARG);
        Check.due("open()", x.open(), 1);
        Check.due("join(0, 30)", x.join(0, 30), 0);
        Check.due("open()", x.open(), 0);
        Check.due("walk(0, 0)", x.walk(0, 0), 6);
    }

    private static void numberOfPort() {
        for (int e = 0; e < 4; e++) {
            CellNets x = Nets.of(TEN_PAIRS);
            for (int c = 0; c < 10; c++) {
                for (int s = 0; s < 3; s++) {
                    int p = 3 * c + s;
                    Check.due("join(" + p + ", " + (30 + e) + ")", x.join(p, 30 + e), 0);
                    Check.due("walk(" + e + ", 0) to port " + p, x.walk(e, 0), 3 * TEN_PAIRS[c] + s);
                    Check.due("cut(" + (30 + e) + ")", x.cut(30 + e), p);
                }
            }
        }
    }

    private static void fourEnds() {
        for (CellNets x : new CellNets[] {new CellNets(), Nets.of(TEN_PAIRS)}) {
            int last = x.cells() == 10 ? Nets.NONE : Nets.BAD_ARG;
            Check.due("cut(29)", x.cut(29), last);
            Check.due("cut(34)", x.cut(34), Nets.BAD_ARG);
            Check.due("join(30, 33)", x.join(30, 33), 0);
            Check.due("join(32, 31)", x.join(32, 31), 0);
            int[] other = {33, 32, 31, 30};
            for (int e = 0; e < 4; e++) {
                Check.due("walk(" + e + ", 0)", x.walk(e, 0), 10 + other[e] - 30);
            }
        }
    }

    private static void endsHaveNoCell() {
        CellNets x = Nets.of(Nets.kinds(0), 0, 30);
        Check.due("cells()", x.cells(), 1);
        Check.due("facing()", x.facing(), 0);
        Check.due("steps()", x.steps(), 0);
        // The pair's two sides: no open end counts.
        Check.due("open()", x.open(), 2);
        Check.due("reach(0)", x.reach(0), 1);
        CellNets ends = Nets.of(Nets.kinds(), 30, 33);
        Check.due("steps() of ends", ends.steps(), 0);
        Check.due("reach(0) of ends", ends.reach(0), 0);
        Check.due("open() of ends", ends.open(), 0);
    }

    private static void anyTwoMayBeJoined() {
        int[][] wires = {{0, 1}, {2, 0}, {1, 2}, {0, 3}, {1, 5}, {4, 0}, {6, 1}, {30, 31}, {33, 6}, {2, 32}};
        for (int[] wire : wires) {
            CellNets x = Nets.of(Nets.kinds(0, 1, 2), wire);
            int ofCells = (wire[0] < 30 ? 1 : 0) + (wire[1] < 30 ? 1 : 0);
            if (x.steps() == 0) {
                Check.due("open()", x.open(), 7 - ofCells);
            }
            Check.due("cut(" + wire[0] + ")", x.cut(wire[0]), wire[1]);
            Check.due("open()", x.open(), 7);
        }
    }

    private static void atMostOneWire() {
        for (int p = 0; p < 34; p++) {
            int q = p == 0 ? 33 : 0;
            CellNets x = Nets.of(TEN_PAIRS, p, q);
            for (int r = 0; r < 34; r++) {
                if (r != p) {
                    Check.due("join(" + p + ", " + r + ")", x.join(p, r), Nets.NONE);
                    Check.due("join(" + r + ", " + p + ")", x.join(r, p), Nets.NONE);
                }
            }
            Check.due("cut(" + p + ")", x.cut(p), q);
        }
    }

    public static void main(String[] args) {
        Check.sentence("0 and 1 are PAIRS of two sorts, with three PORTS: the HEAD 0 and the sides 1 and 2");
        threePorts(0);
        threePorts(1);
        Check.sentence("kind 2 are ERASERS, which have the head only");
        headOnly();
        Check.sentence("port s of cell c has the number 3 c + s");
        numberOfPort();
        Check.sentence("There are four ENDS, numbered 30 to 33");
        fourEnds();
        Check.sentence("which are ports without a cell");
        endsHaveNoCell();
        Check.sentence("Two different ports may be joined by a WIRE; a port without is OPEN.");
        anyTwoMayBeJoined();
        Check.sentence("a port has at most one wire");
        atMostOneWire();
        Check.end();
    }
}
