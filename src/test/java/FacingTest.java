/** Promise 7: facing. */
public final class FacingTest {
    private static void headsOfAllKinds() {
        for (int a = 0; a < 3; a++) {
            for (int b = 0; b < 3; b++) {
                CellNets x = Nets.of(Nets.kinds(a, b), 0, 3);
                Check.due("facing() of kinds " + a + " and " + b, x.facing(), 1);
                Check.due("cut(3)", x.cut(3), 0);
                Check.due("facing() after cut", x.facing(), 0);
                Check.due("join(3, 0)", x.join(3, 0), 0);
                Check.due("facing() of kinds " + a + " and " + b, x.facing(), 1);
            }
        }
    }

    private static void notFacing() {
        // Among the ends are numbers that 3 divides, as it does a head's.
        for (int e = 30; e < 34; e++) {
            Check.due("facing() with an end", Nets.of(Nets.kinds(0, 2), 0, e).facing(), 0);
        }
        Check.due("facing() with ends", Nets.of(Nets.kinds(0), 30, 33, 0, 1).facing(), 0);
        Check.due("facing() with sides", Nets.of(Nets.kinds(0, 0), 0, 4, 1, 3).facing(), 0);
        Check.due("facing() between sides", Nets.of(Nets.kinds(0, 0), 1, 4, 2, 5).facing(), 0);
        Check.due("facing() with an eraser", Nets.of(Nets.kinds(0, 2), 1, 3).facing(), 0);
    }

    private static void many() {
        CellNets x = Nets.of(Nets.kinds(0, 1, 2, 0, 1, 2, 0, 1, 2, 0), 0, 27, 24, 3, 6, 21, 9, 18, 15, 12);
        Check.due("facing()", x.facing(), 5);
        Check.due("steps()", x.steps() > 0 ? 1 : 0, 1);
        Check.due("facing() after a run", x.facing(), 5);
        Check.due("facing() of an endless net", Nets.endless().facing(), 1);
    }

    public static void main(String[] args) {
        headsOfAllKinds();
        notFacing();
        many();
        Check.end();
    }
}
