/** Promise 12: reach. */
public final class ReachTest {
    private static void reach(CellNets x, int... due) {
        for (int e = 0; e < 4; e++) {
            Check.due("reach(" + e + ")", x.reach(e), due[e]);
        }
        Check.due("reach(0) again", x.reach(0), due[0]);
    }

    private static void wrongEnds(CellNets x) {
        Check.due("reach(-1)", x.reach(-1), Nets.BAD_ARG);
        for (int e = 4; e < 40; e++) {
            Check.due("reach(" + e + ")", x.reach(e), Nets.BAD_ARG);
        }
        for (int e : Nets.OUT_OF_RANGE) {
            Check.due("reach(" + e + ")", x.reach(e), Nets.BAD_ARG);
        }
    }

    private static void nothingToGetTo() {
        reach(new CellNets(), 0, 0, 0, 0);
        reach(Nets.of(Nets.kinds(0, 1, 2)), 0, 0, 0, 0);
        reach(Nets.of(Nets.kinds(0), 30, 32, 33, 31), 0, 0, 0, 0);
        // Cells that vanish are not left to be got to.
        reach(Nets.of(Nets.kinds(0, 0), 0, 3, 1, 30, 2, 31, 4, 32, 5, 33), 0, 0, 0, 0);
        reach(Nets.of(Nets.kinds(0, 0, 1), 0, 3, 1, 30, 6, 7), 0, 0, 0, 0);
    }

    private static void withoutSteps() {
        reach(Nets.of(Nets.kinds(0, 1), 30, 33, 31, 0), 0, 1, 0, 0);
        reach(Nets.of(Nets.kinds(2), 0, 32), 0, 0, 1, 0);
        // From each port of a pair to the cells at its others, whichever they are.
        for (int s = 0; s < 3; s++) {
            CellNets x = Nets.of(Nets.kinds(0, 1, 1, 2), 30, s, (s + 1) % 3, 4, (s + 2) % 3, 8, 5, 9);
            reach(x, 4, 0, 0, 0);
        }
        // Two nets apart; an end leads nowhere further.
        reach(Nets.of(Nets.kinds(0, 0, 1, 2), 30, 0, 1, 4, 31, 7, 9, 32), 2, 1, 1, 0);
        // All ends at one net, with a ring in it.
        reach(Nets.of(Nets.kinds(0, 1, 0), 1, 3, 4, 6, 7, 0, 30, 2, 31, 5, 32, 8), 3, 3, 3, 0);
        // A chain of ten.
        reach(Nets.of(Nets.kinds(0, 0, 0, 0, 0, 0, 0, 0, 0, 2), 33, 0, 1, 3, 5, 6, 7, 9, 11, 12, 13, 15,
            17, 18, 19, 21, 23, 24, 25, 27), 0, 0, 0, 10);
    }

    private static void afterTheRun() {
        reach(Nets.of(Nets.kinds(0, 0, 1), 0, 3, 1, 30, 4, 7), 1, 0, 0, 0);
        reach(Nets.of(Nets.kinds(2, 0), 0, 3, 4, 30, 5, 31), 1, 1, 0, 0);
        reach(Nets.of(Nets.kinds(0, 1), 0, 3, 1, 30), 4, 0, 0, 0);
        reach(Nets.of(Nets.kinds(0, 1, 1), 0, 3, 5, 33, 6, 30), 1, 0, 0, 4);
        reach(Nets.of(Nets.KINDS_120, Nets.WIRES_120), 0, 98, 98, 0);
    }

    public static void main(String[] args) {
        Check.sentence("How many cells left by the run can be got to from end e");
        nothingToGetTo();
        Check.sentence("over wires and through cells");
        withoutSteps();
        afterTheRun();
        Check.sentence("BAD_ARG if e is not 0 to 3");
        wrongEnds(new CellNets());
        wrongEnds(Nets.of(Nets.kinds(0), 0, 30));
        Check.sentence("TIRED");
        int tired = Nets.TIRED;
        reach(Nets.endless(), tired, tired, tired, tired);
        reach(Nets.of(Nets.KINDS_121, Nets.WIRES_121), tired, tired, tired, tired);
        Check.sentence("BAD_ARG if e is not 0 to 3, tested first");
        wrongEnds(Nets.endless());
        wrongEnds(Nets.of(Nets.KINDS_121, Nets.WIRES_121));
        Check.end();
    }
}
