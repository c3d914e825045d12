/** Nets that several tests put together. */
final class Nets {
    static final int BAD_ARG = -1;
    static final int FULL = -2;
    static final int NONE = -4;
    static final int TIRED = -5;

    static final int[] OUT_OF_RANGE = {-1, -2, -3, Integer.MIN_VALUE, Integer.MIN_VALUE + 1, Integer.MAX_VALUE};

    /** Takes exactly 120 steps; found by search, its count confirmed by NetModel in StepsTest. */
    static final int[] KINDS_120 = {0, 0, 1, 1, 0, 0, 1, 1, 0, 1};
    static final int[] WIRES_120 = {
        0, 16, 1, 24, 2, 32, 3, 6, 4, 25, 5, 31, 7, 11, 8, 26, 9, 23, 10, 20,
        12, 28, 13, 17, 14, 29, 15, 21, 18, 22, 19, 27, 30, 33};

    /** Takes exactly 121 steps; found and confirmed in the same way. */
    static final int[] KINDS_121 = {0, 0, 0, 0, 0, 1, 1, 0, 1, 1};
    static final int[] WIRES_121 = {
        0, 4, 1, 14, 2, 21, 3, 27, 5, 8, 6, 23, 7, 22, 9, 18, 10, 28, 11, 29,
        12, 15, 13, 19, 16, 20, 17, 24, 25, 26, 30, 32, 31, 33};

    private Nets() {
    }

    /** Puts in cells of these kinds, then joins the ports two by two. */
    static CellNets of(int[] kinds, int... ports) {
        CellNets x = new CellNets();
        for (int i = 0; i < kinds.length; i++) {
            Check.due("cell(" + kinds[i] + ")", x.cell(kinds[i]), i);
        }
        for (int i = 0; i < ports.length; i += 2) {
            Check.due("join(" + ports[i] + ", " + ports[i + 1] + ")", x.join(ports[i], ports[i + 1]), 0);
        }
        return x;
    }

    static int[] kinds(int... kinds) {
        return kinds;
    }

    /** Two pairs that copy each other for ever. */
    static CellNets endless() {
        return of(kinds(0, 1), 0, 3, 1, 4, 2, 5);
    }

    /** Asks all that can be asked without changing the net. */
    static String answers(CellNets x) {
        StringBuilder all = new StringBuilder();
        all.append(x.cells()).append(' ').append(x.facing()).append(' ').append(x.steps());
        all.append(' ').append(x.loops()).append(' ').append(x.open());
        for (int kind = 0; kind < 3; kind++) {
            all.append(' ').append(x.left(kind));
        }
        for (int e = 0; e < 4; e++) {
            all.append(' ').append(x.reach(e)).append(' ').append(x.walk(e, 0)).append(' ').append(x.walk(e, 1234));
        }
        return all.toString();
    }
}
