/** Promise 9: left. */
public final class LeftTest {
    private static void left(CellNets x, int zeros, int ones, int erasers) {
        Check.due("left(0)", x.left(0), zeros);
        Check.due("left(1)", x.left(1), ones);
        Check.due("left(2)", x.left(2), erasers);
        Check.due("left(0) again", x.left(0), zeros);
    }

    private static void withoutSteps() {
        left(new CellNets(), 0, 0, 0);
        left(Nets.of(Nets.kinds(0, 0, 0, 1, 1, 2)), 3, 2, 1);
        left(Nets.of(Nets.kinds(2, 2, 2, 2, 2, 2, 2, 2, 2, 2)), 0, 0, 10);
        // Cells that nothing joins to an end are left as well.
        left(Nets.of(Nets.kinds(0, 1), 0, 30), 1, 1, 0);
    }

    private static void afterTheRun() {
        left(Nets.of(Nets.kinds(0, 0), 0, 3), 0, 0, 0);
        left(Nets.of(Nets.kinds(1, 1, 0), 0, 3), 1, 0, 0);
        left(Nets.of(Nets.kinds(2, 2), 0, 3), 0, 0, 0);
        left(Nets.of(Nets.kinds(2, 0), 0, 3), 0, 0, 2);
        left(Nets.of(Nets.kinds(1, 2), 0, 3), 0, 0, 2);
        left(Nets.of(Nets.kinds(0, 1), 0, 3), 2, 2, 0);
        left(Nets.of(Nets.kinds(1, 0), 0, 3), 2, 2, 0);
        // A tree of two pairs copied by one pair: two copies of it, and a pair for each of its leaves.
        left(Nets.of(Nets.kinds(0, 1, 1), 0, 3, 4, 6), 3, 4, 0);
        // Two trees of five pairs copy each other: each of the six leaves of one gets the other tree.
        left(Nets.of(Nets.kinds(0, 0, 0, 0, 0, 1, 1, 1, 1, 1),
            0, 15, 1, 3, 2, 6, 4, 9, 5, 12, 16, 18, 17, 21, 19, 24, 20, 27), 30, 30, 0);
        left(LongNets.of(0), 0, 0, 0);
        left(LongNets.of(1), 39, 59, 0);
        left(LongNets.of(2), 82, 12, 0);
    }

    private static void wrongKinds(CellNets x) {
        Check.due("left(-1)", x.left(-1), Nets.BAD_ARG);
        Check.due("left(3)", x.left(3), Nets.BAD_ARG);
        for (int kind : Nets.OUT_OF_RANGE) {
            Check.due("left(" + kind + ")", x.left(kind), Nets.BAD_ARG);
        }
    }

    private static void tired() {
        left(Nets.endless(), Nets.TIRED, Nets.TIRED, Nets.TIRED);
        left(Nets.of(Nets.KINDS_121, Nets.WIRES_121), Nets.TIRED, Nets.TIRED, Nets.TIRED);
    }

    public static void main(String[] args) {
        Check.sentence("How many cells of this kind are left by the run");
        withoutSteps();
        afterTheRun();
        Check.sentence("BAD_ARG if it is not 0 to 2");
        wrongKinds(new CellNets());
        wrongKinds(Nets.of(Nets.kinds(0, 1), 0, 3));
        Check.sentence("TIRED");
        tired();
        Check.sentence("BAD_ARG if it is not 0 to 2, tested first");
        wrongKinds(Nets.endless());
        wrongKinds(Nets.of(Nets.KINDS_121, Nets.WIRES_121));
        Check.end();
    }
}
