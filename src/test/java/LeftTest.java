/** Promise 9: left. */
public final class LeftTest {
    private static void left(CellNets x, int zeros, int ones, int erasers) {
        Check.due("left(0)", x.left(0), zeros);
        Check.due("left(1)", x.left(1), ones);
        Check.due("left(2)", x.left(2), erasers);
        Check.due("left(0) again", x.left(0), zeros);
    }

    private static void refused(CellNets x) {
        for (int kind : Nets.OUT_OF_RANGE) {
            Check.due("left(" + kind + ")", x.left(kind), Nets.BAD_ARG);
        }
        Check.due("left(3)", x.left(3), Nets.BAD_ARG);
    }

    public static void main(String[] args) {
        left(new CellNets(), 0, 0, 0);
        left(Nets.of(Nets.kinds(0, 0, 0, 1, 1, 2)), 3, 2, 1);
        left(Nets.of(Nets.kinds(0, 0), 0, 3), 0, 0, 0);
        left(Nets.of(Nets.kinds(1, 1, 0), 0, 3), 1, 0, 0);
        left(Nets.of(Nets.kinds(2, 2), 0, 3), 0, 0, 0);
        left(Nets.of(Nets.kinds(2, 0), 0, 3), 0, 0, 2);
        left(Nets.of(Nets.kinds(1, 2), 0, 3), 0, 0, 2);
        left(Nets.of(Nets.kinds(0, 1), 0, 3), 2, 2, 0);
        left(Nets.of(Nets.kinds(1, 0), 0, 3), 2, 2, 0);
        // A tree of two pairs copied by one pair: two copies of it, and a pair for each of its leaves.
        left(Nets.of(Nets.kinds(0, 1, 1), 0, 3, 4, 6), 3, 4, 0);
        left(Nets.of(Nets.KINDS_120, Nets.WIRES_120), 39, 59, 0);

        CellNets x = Nets.endless();
        left(x, Nets.TIRED, Nets.TIRED, Nets.TIRED);
        refused(x);
        refused(new CellNets());
        left(Nets.of(Nets.KINDS_121, Nets.WIRES_121), Nets.TIRED, Nets.TIRED, Nets.TIRED);
        Check.end();
    }
}
