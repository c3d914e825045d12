/** Promise 6: cells. */
public final class CellsTest {
    private static void fromNoneToTen() {
        CellNets x = new CellNets();
        for (int c = 0; c < 10; c++) {
            Check.due("cells()", x.cells(), c);
            Check.due("cell(3)", x.cell(3), Nets.BAD_ARG);
            Check.due("cells() after BAD_ARG", x.cells(), c);
            Check.due("cell()", x.cell(c % 3), c);
        }
        Check.due("cells()", x.cells(), 10);
        Check.due("cell(0)", x.cell(0), Nets.FULL);
        Check.due("cells() after FULL", x.cells(), 10);
        x.clear();
        Check.due("cells() after clear()", x.cells(), 0);
    }

    private static void wiresDoNotCount() {
        CellNets x = Nets.of(Nets.kinds(0, 1), 0, 30, 1, 2, 31, 33);
        Check.due("cells() with wires", x.cells(), 2);
        Check.due("cut(0)", x.cut(0), 30);
        Check.due("cells() after cut", x.cells(), 2);
    }

    private static void runsDoNotCount() {
        CellNets vanish = Nets.of(Nets.kinds(2, 2), 0, 3);
        Check.due("left(2)", vanish.left(2), 0);
        Check.due("cells() after two vanished", vanish.cells(), 2);
        CellNets copy = Nets.of(Nets.kinds(0, 1), 0, 3);
        Check.due("left(0)", copy.left(0), 2);
        Check.due("cells() after copies", copy.cells(), 2);
        CellNets tired = Nets.endless();
        Check.due("steps()", tired.steps(), Nets.TIRED);
        Check.due("cells() after TIRED", tired.cells(), 2);
    }

    public static void main(String[] args) {
        Check.sentence("The number of cells.");
        fromNoneToTen();
        wiresDoNotCount();
        runsDoNotCount();
        Check.end();
    }
}
