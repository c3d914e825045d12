/** Promise 5: clear. */
public final class ClearTest {
    private static void asNew(CellNets x) {
        x.clear();
        CellNets fresh = new CellNets();
        Check.same("answers after clear()", Nets.answers(x), Nets.answers(fresh));
        Check.same("cells and wires after clear()", Nets.takenApart(x), Nets.takenApart(fresh));
    }

    private static void allCells() {
        asNew(new CellNets());
        asNew(Nets.of(Nets.kinds(2)));
        asNew(Nets.of(Nets.kinds(0, 1, 2, 0, 1, 2, 0, 1, 2, 0)));
        CellNets twice = Nets.of(Nets.kinds(0, 1));
        twice.clear();
        asNew(twice);
    }

    private static void roomForTenAgain() {
        CellNets x = Nets.of(Nets.kinds(0, 1, 2, 0, 1, 2, 0, 1, 2, 0));
        Check.due("cell(0)", x.cell(0), Nets.FULL);
        for (int round = 0; round < 5; round++) {
            x.clear();
            for (int c = 0; c < 10; c++) {
                Check.due("cell(2)", x.cell(2), c);
            }
            Check.due("cell(2)", x.cell(2), Nets.FULL);
        }
        Check.due("left(2)", x.left(2), 10);
        Check.due("left(0)", x.left(0), 0);
    }

    private static void allWires() {
        asNew(Nets.of(Nets.kinds(), 30, 33));
        CellNets x = Nets.of(Nets.kinds(0, 0, 1), 0, 3, 1, 4, 2, 30, 31, 32, 6, 7);
        x.clear();
        for (int c = 0; c < 10; c++) {
            Check.due("cell(1)", x.cell(1), c);
        }
        Check.due("facing()", x.facing(), 0);
        Check.due("open()", x.open(), 30);
        for (int p = 0; p < 34; p++) {
            Check.due("cut(" + p + ")", x.cut(p), Nets.NONE);
        }
    }

    private static void whatARunHasLeft() {
        CellNets long120 = Nets.of(Nets.KINDS_120, Nets.WIRES_120);
        Check.due("steps()", long120.steps(), 120);
        asNew(long120);
        CellNets tired = Nets.endless();
        Check.due("steps()", tired.steps(), Nets.TIRED);
        asNew(tired);
        CellNets looped = Nets.of(Nets.kinds(0, 0), 0, 3, 1, 4, 2, 5);
        Check.due("loops()", looped.loops(), 2);
        asNew(looped);
    }

    public static void main(String[] args) {
        Check.sentence("Takes all cells away.");
        allCells();
        roomForTenAgain();
        Check.sentence("Takes all wires away.");
        allWires();
        whatARunHasLeft();
        Check.end();
    }
}
