/** Promise 1: a new object has no cell, and so nothing to face, to run or to walk to. */
public final class NewObjectTest {
    private static void nothingThere(CellNets x) {
        Check.due("cells()", x.cells(), 0);
        Check.due("facing()", x.facing(), 0);
        Check.due("steps()", x.steps(), 0);
        Check.due("loops()", x.loops(), 0);
        Check.due("open()", x.open(), 0);
        for (int kind = 0; kind < 3; kind++) {
            Check.due("left(" + kind + ")", x.left(kind), 0);
        }
        for (int e = 0; e < 4; e++) {
            Check.due("walk(" + e + ", 0)", x.walk(e, 0), 9);
            Check.due("walk(" + e + ", 4095)", x.walk(e, 4095), 9);
            Check.due("reach(" + e + ")", x.reach(e), 0);
        }
    }

    private static void noPortsButTheEnds(CellNets x) {
        for (int p = 0; p < 30; p++) {
            Check.due("cut(" + p + ")", x.cut(p), Nets.BAD_ARG);
            Check.due("join(" + p + ", 30)", x.join(p, 30), Nets.BAD_ARG);
        }
        for (int p = 30; p < 34; p++) {
            Check.due("cut(" + p + ")", x.cut(p), Nets.NONE);
        }
    }

    private static void apartFromOthers() {
        CellNets used = Nets.of(Nets.kinds(0, 1), 0, 3, 30, 31);
        CellNets other = new CellNets();
        nothingThere(other);
        noPortsButTheEnds(other);
        Check.due("cell(2) of the new object", other.cell(2), 0);
        Check.due("join(0, 33) of the new object", other.join(0, 33), 0);
        Nets.unchanged("calls on a second object", used, Nets.kinds(0, 1), 0, 3, 30, 31);
    }

    public static void main(String[] args) {
        Check.sentence("No cell.");
        nothingThere(new CellNets());
        noPortsButTheEnds(new CellNets());
        Check.sentence("A new object");
        apartFromOthers();
        Check.end();
    }
}
