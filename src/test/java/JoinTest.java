/** Promise 3: join. */
public final class JoinTest {
    private static void noPort(CellNets x, int p) {
        Check.due("join(" + p + ", 33)", x.join(p, 33), Nets.BAD_ARG);
        Check.due("join(33, " + p + ")", x.join(33, p), Nets.BAD_ARG);
        Check.due("join(" + p + ", " + p + ")", x.join(p, p), Nets.BAD_ARG);
    }

    private static void outsideAllPorts() {
        CellNets empty = new CellNets();
        CellNets full = Nets.of(Nets.kinds(0, 1, 0, 1, 0, 1, 0, 1, 0, 1));
        for (int p : Nets.OUT_OF_RANGE) {
            noPort(empty, p);
            noPort(full, p);
        }
        for (int p = 34; p < 70; p++) {
            noPort(empty, p);
            noPort(full, p);
        }
    }

    private static void portsOfCellsThatAreNotThere() {
        CellNets x = new CellNets();
        for (int c = 0; c < 10; c++) {
            // Just behind the last cell's ports, and the last number below the ends.
            noPort(x, 3 * c);
            noPort(x, 3 * c + 1);
            noPort(x, 3 * c + 2);
            noPort(x, 29);
            Check.due("cell(0)", x.cell(0), c);
            for (int s = 0; s < 3; s++) {
                Check.due("join of a new port", x.join(3 * c + s, 33), 0);
                Check.due("cut(33)", x.cut(33), 3 * c + s);
            }
        }
        x.clear();
        for (int p = 0; p < 30; p++) {
            noPort(x, p);
        }
    }

    private static void sidesOfErasers() {
        CellNets x = Nets.of(Nets.kinds(2, 2, 2, 2, 2, 2, 2, 2, 2, 2));
        for (int c = 0; c < 10; c++) {
            noPort(x, 3 * c + 1);
            noPort(x, 3 * c + 2);
            Check.due("join(33, " + 3 * c + ")", x.join(33, 3 * c), 0);
            Check.due("cut(33)", x.cut(33), 3 * c);
        }
        CellNets after = Nets.of(Nets.kinds(0));
        after.clear();
        Check.due("cell(2)", after.cell(2), 0);
        noPort(after, 1);
        noPort(after, 2);
    }

    private static void theSame() {
        CellNets x = Nets.of(Nets.kinds(0, 1, 0, 1, 0, 1, 0, 1, 0, 1));
        for (int p = 0; p < 34; p++) {
            Check.due("join(" + p + ", " + p + ")", x.join(p, p), Nets.BAD_ARG);
            Check.due("cut(" + p + ")", x.cut(p), Nets.NONE);
        }
    }

    private static void notOpen() {
        int[] kinds = Nets.kinds(0, 1);
        int[] wires = {0, 30, 1, 2};
        CellNets x = Nets.of(kinds, wires);
        Check.due("join(0, 3)", x.join(0, 3), Nets.NONE);
        Check.due("join(3, 0)", x.join(3, 0), Nets.NONE);
        Check.due("join(30, 31)", x.join(30, 31), Nets.NONE);
        Check.due("join(31, 30)", x.join(31, 30), Nets.NONE);
        Check.due("join(31, 2)", x.join(31, 2), Nets.NONE);
        Check.due("join(0, 1), both not open", x.join(0, 1), Nets.NONE);
        Check.due("join(0, 30) again", x.join(0, 30), Nets.NONE);
        Check.due("join(30, 0) again", x.join(30, 0), Nets.NONE);
        Check.due("join(2, 1) again", x.join(2, 1), Nets.NONE);
        Nets.unchanged("NONE", x, kinds, wires);
    }

    private static void noPortBeforeNotOpen() {
        int[] kinds = Nets.kinds(0, 2);
        int[] wires = {0, 30, 3, 33};
        CellNets x = Nets.of(kinds, wires);
        for (int wired : new int[] {0, 30, 3, 33}) {
            Check.due("join(" + wired + ", " + wired + ")", x.join(wired, wired), Nets.BAD_ARG);
            for (int none : new int[] {-1, 4, 5, 6, 29, 34, Integer.MIN_VALUE, Integer.MAX_VALUE}) {
                Check.due("join(" + wired + ", " + none + ")", x.join(wired, none), Nets.BAD_ARG);
                Check.due("join(" + none + ", " + wired + ")", x.join(none, wired), Nets.BAD_ARG);
            }
        }
        Nets.unchanged("BAD_ARG", x, kinds, wires);
    }

    private static void everyTwoPorts() {
        for (int p = 0; p < 34; p++) {
            // A new object for each p, as one is good for 512 calls only.
            CellNets x = Nets.of(Nets.kinds(0, 1, 0, 1, 0, 1, 0, 1, 0, 1));
            for (int q = 0; q < 34; q++) {
                if (p != q) {
                    Check.due("join(" + p + ", " + q + ")", x.join(p, q), 0);
                    Check.due("cut(" + q + ")", x.cut(q), p);
                    Check.due("join(" + q + ", " + p + ")", x.join(q, p), 0);
                    Check.due("cut(" + q + ")", x.cut(q), p);
                }
            }
        }
    }

    private static void allPortsAtOnce() {
        CellNets x = Nets.of(Nets.kinds(0, 1, 0, 1, 0, 1, 0, 1, 0, 1));
        for (int p = 0; p < 17; p++) {
            Check.due("join(" + p + ", " + (33 - p) + ")", x.join(p, 33 - p), 0);
        }
        for (int p = 0; p < 34; p++) {
            Check.due("join(" + p + ", " + (p + 1) % 34 + ")", x.join(p, (p + 1) % 34), Nets.NONE);
        }
        for (int p = 0; p < 17; p++) {
            Check.due("cut(" + p + ")", x.cut(p), 33 - p);
        }
    }

    public static void main(String[] args) {
        Check.sentence("p or q is no port (3 c + s of a cell with that port, or 30 to 33) answers BAD_ARG");
        outsideAllPorts();
        portsOfCellsThatAreNotThere();
        sidesOfErasers();
        Check.sentence("or they are the same, answers BAD_ARG");
        theSame();
        Check.sentence("one of them is not open answers NONE");
        notOpen();
        Check.sentence("Tested in this order: BAD_ARG; NONE");
        noPortBeforeNotOpen();
        Check.sentence("Joins the ports p and q by a wire. Otherwise 0.");
        everyTwoPorts();
        allPortsAtOnce();
        Check.end();
    }
}
