/** Promise 6: cells. */
public final class CellsTest {
    public static void main(String[] args) {
        CellNets x = new CellNets();
        for (int c = 0; c < 10; c++) {
            Check.due("cells()", x.cells(), c);
            Check.due("cell()", x.cell(c % 3), c);
        }
        Check.due("cells()", x.cells(), 10);
        Check.due("cell(0)", x.cell(0), Nets.FULL);
        Check.due("cells() after FULL", x.cells(), 10);

        // Runs that take cells out or put some in leave the net's own cells.
        CellNets vanish = Nets.of(Nets.kinds(2, 2), 0, 3);
        Check.due("left(2)", vanish.left(2), 0);
        Check.due("cells()", vanish.cells(), 2);
        CellNets copy = Nets.of(Nets.kinds(0, 1), 0, 3);
        Check.due("left(0)", copy.left(0), 2);
        Check.due("cells()", copy.cells(), 2);
        CellNets tired = Nets.endless();
        Check.due("steps()", tired.steps(), Nets.TIRED);
        Check.due("cells()", tired.cells(), 2);
        Check.due("cut(0)", tired.cut(0), 3);
        Check.due("cells() after cut", tired.cells(), 2);
        Check.due("cell(5)", tired.cell(5), Nets.BAD_ARG);
        Check.due("cells() after BAD_ARG", tired.cells(), 2);
        Check.end();
    }
}
