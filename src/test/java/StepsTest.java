/** Promise 8: steps. */
public final class StepsTest {
    private static void oneStep() {
        for (int a = 0; a < 3; a++) {
            for (int b = 0; b < 3; b++) {
                Check.due("steps() of " + a + " and " + b, Nets.of(Nets.kinds(a, b), 0, 3).steps(), 1);
            }
        }
    }

    private static void noStep() {
        Check.due("steps() without cells", new CellNets().steps(), 0);
        Check.due("steps() of ends", Nets.of(Nets.kinds(), 30, 31, 32, 33).steps(), 0);
        Check.due("steps() without wires", Nets.of(Nets.kinds(0, 1, 2)).steps(), 0);
        Check.due("steps() with an end", Nets.of(Nets.kinds(0, 2), 0, 30, 3, 33).steps(), 0);
        Check.due("steps() with sides", Nets.of(Nets.kinds(0, 1), 0, 4, 1, 3, 2, 5).steps(), 0);
    }

    private static void stepsThatBringSteps() {
        // The two new erasers face each other over the pair's own wire.
        Check.due("steps() of a pair joined to itself", Nets.of(Nets.kinds(2, 0), 0, 3, 4, 5).steps(), 2);
        // An eraser goes down a tree of two pairs, and meets an eraser at a leaf.
        Check.due("steps() of a tree", Nets.of(Nets.kinds(2, 0, 1, 2), 0, 3, 4, 6, 7, 9).steps(), 3);
        // Two pairs vanish, and so two more come to face each other.
        Check.due("steps() behind", Nets.of(Nets.kinds(0, 0, 1, 1), 0, 3, 1, 6, 4, 9).steps(), 2);
        Check.due("steps() of copies", Nets.of(Nets.kinds(0, 1), 0, 3, 1, 2, 4, 5).steps(), 3);
        // Every pair of one tree meets every pair of the other one.
        Check.due("steps() of two trees", Nets.of(Nets.kinds(0, 0, 0, 0, 0, 1, 1, 1, 1, 1),
            0, 15, 1, 3, 2, 6, 4, 9, 5, 12, 16, 18, 17, 21, 19, 24, 20, 27).steps(), 25);
    }

    private static void manyAndMost() {
        // Ten cells face each other in five pairs, each of which takes its one step.
        Check.due("steps() of five", Nets.of(Nets.kinds(2, 2, 0, 0, 1, 1, 0, 1, 2, 1),
            0, 3, 6, 9, 12, 15, 18, 21, 24, 27).steps(), 5);
        Check.due("steps() of 119", LongNets.of(0).steps(), 119);
        Check.due("steps() of 120", Nets.of(Nets.KINDS_120, Nets.WIRES_120).steps(), 120);
    }

    private static void tired() {
        Check.due("steps() of 121", Nets.of(Nets.KINDS_121, Nets.WIRES_121).steps(), Nets.TIRED);
        CellNets x = Nets.endless();
        Check.due("steps() without end", x.steps(), Nets.TIRED);
        Check.due("steps() again", x.steps(), Nets.TIRED);
        Check.due("cut(1)", x.cut(1), 4);
        Check.due("cut(2)", x.cut(2), 5);
        Check.due("steps() after cuts", x.steps(), 1);
        Check.due("steps() again", x.steps(), 1);
        Check.due("cut(0)", x.cut(0), 3);
        Check.due("steps() after the last cut", x.steps(), 0);
    }

    public static void main(String[] args) {
        Check.sentence("The number of steps of the run");
        noStep();
        oneStep();
        stepsThatBringSteps();
        manyAndMost();
        Check.sentence("TIRED: The run would take more than 120 steps.");
        tired();
        Check.end();
    }
}
