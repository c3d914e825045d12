/** Promise 7: facing. */
public final class FacingTest {
    private static void headsOfAllKinds() {
        for (int a = 0; a < 3; a++) {
            for (int b = 0; b < 3; b++) {
                CellNets x = Nets.of(Nets.kinds(a, b), 0, 3);
                Check.due("facing() of kinds " + a + " and " + b, x.facing(), 1);
                Check.due("cut(3)", x.cut(3), 0);
                Check.due("facing() after cut", x.facing(), 0);
                Check.due("join(3, 0)", x.join(3, 0), 0);
                Check.due("facing() of kinds " + a + " and " + b, x.facing(), 1);
            }
        }
    }

    private static void everyTwoOfTenCells() {
        for (int c = 0; c < 10; c++) {
            CellNets x = Nets.of(Nets.kinds(0, 1, 2, 0, 1, 2, 0, 1, 2, 0));
            for (int d = c + 1; d < 10; d++) {
                Check.due("join of heads", x.join(3 * c, 3 * d), 0);
                Check.due("facing() of cells " + c + " and " + d, x.facing(), 1);
                Check.due("cut of head", x.cut(3 * d), 3 * c);
            }
        }
    }

    private static void notFacing() {
        Check.due("facing() without cells", new CellNets().facing(), 0);
        Check.due("facing() without wires", Nets.of(Nets.kinds(0, 0, 1, 2, 2)).facing(), 0);
        // Among the ends are numbers that 3 divides, as it does a head's.
        for (int e = 30; e < 34; e++) {
            Check.due("facing() with an end", Nets.of(Nets.kinds(0, 2), 0, e).facing(), 0);
        }
        Check.due("facing() of ends", Nets.of(Nets.kinds(0), 30, 33).facing(), 0);
        Check.due("facing() of one cell", Nets.of(Nets.kinds(0), 0, 1).facing(), 0);
        Check.due("facing() of one cell", Nets.of(Nets.kinds(1), 2, 0).facing(), 0);
        Check.due("facing() with sides", Nets.of(Nets.kinds(0, 0), 0, 4, 1, 3).facing(), 0);
        Check.due("facing() between sides", Nets.of(Nets.kinds(0, 0), 1, 4, 2, 5).facing(), 0);
        Check.due("facing() with an eraser", Nets.of(Nets.kinds(0, 2), 1, 3).facing(), 0);
    }

    private static void fromNoneToFive() {
        CellNets x = Nets.of(Nets.kinds(0, 1, 2, 0, 1, 2, 0, 1, 2, 0));
        int[] heads = {0, 27, 24, 3, 6, 21, 9, 18, 15, 12};
        for (int i = 0; i < 5; i++) {
            Check.due("facing()", x.facing(), i);
            Check.due("join of heads", x.join(heads[2 * i], heads[2 * i + 1]), 0);
        }
        Check.due("facing()", x.facing(), 5);
    }

    private static void beforeTheRun() {
        CellNets x = Nets.of(Nets.kinds(2, 2, 0, 0), 0, 3, 6, 9);
        Check.due("steps()", x.steps(), 2);
        Check.due("facing() after a run", x.facing(), 2);
        // The two new erasers of the first step face each other, but only in the run.
        CellNets erased = Nets.of(Nets.kinds(2, 0), 0, 3, 4, 5);
        Check.due("facing()", erased.facing(), 1);
        Check.due("steps()", erased.steps(), 2);
        Check.due("facing() after a run", erased.facing(), 1);
        CellNets endless = Nets.endless();
        Check.due("steps()", endless.steps(), Nets.TIRED);
        Check.due("facing() of a net that is tired", endless.facing(), 1);
    }

    public static void main(String[] args) {
        Check.sentence("Two cells FACE each other if a wire joins their heads.");
        headsOfAllKinds();
        everyTwoOfTenCells();
        notFacing();
        Check.sentence("How many pairs of cells face each other.");
        fromNoneToFive();
        beforeTheRun();
        Check.end();
    }
}
