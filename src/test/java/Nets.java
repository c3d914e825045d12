/** Nets that several tests put together. */
final class Nets {
    static final int BAD_ARG = -1;
    static final int FULL = -2;
    static final int NONE = -4;
    static final int TIRED = -5;

    /** Out of every range: among them are some that become small when they are tripled, added to or negated. */
    static final int[] OUT_OF_RANGE = {
        -1, -2, -3, -4, -29, -30, -31, -33, -34, Integer.MIN_VALUE, Integer.MIN_VALUE + 1,
        Integer.MIN_VALUE + 30, -1431655765, 1431655766, Integer.MAX_VALUE - 29, Integer.MAX_VALUE - 1,
        Integer.MAX_VALUE, 4096, 65536, 65566, 1 << 30};

    /** Takes exactly 120 steps; found by search, its count confirmed by NetModel in TermsRunTest. */
    static final int[] KINDS_120 = {0, 0, 1, 1, 0, 0, 1, 1, 0, 1};
    static final int[] WIRES_120 = {
        0, 16, 1, 24, 2, 32, 3, 6, 4, 25, 5, 31, 7, 11, 8, 26, 9, 23, 10, 20,
        12, 28, 13, 17, 14, 29, 15, 21, 18, 22, 19, 27, 30, 33};

    /** Takes exactly 121 steps; found and confirmed in the same way. */
    static final int[] KINDS_121 = {0, 0, 0, 0, 0, 1, 1, 0, 1, 1};
    static final int[] WIRES_121 = {
        0, 4, 1, 14, 2, 21, 3, 27, 5, 8, 6, 23, 7, 22, 9, 18, 10, 28, 11, 29,
        12, 15, 13, 19, 16, 20, 17, 24, 25, 26, 30, 32, 31, 33};

    private Nets() {
    }

    /** Puts in cells of these kinds, then joins the ports two by two. */
    static CellNets of(int[] kinds, int... ports) {
        CellNets x = new CellNets();
        for (int i = 0; i < kinds.length; i++) {
            Check.due("cell(" + kinds[i] + ")", x.cell(kinds[i]), i);
        }
        for (int i = 0; i < ports.length; i += 2) {
            Check.due("join(" + ports[i] + ", " + ports[i + 1] + ")", x.join(ports[i], ports[i + 1]), 0);
        }
        return x;
    }

    static int[] kinds(int... kinds) {
        return kinds;
    }

    /** Two pairs that copy each other for ever. */
    static CellNets endless() {
        return of(kinds(0, 1), 0, 3, 1, 4, 2, 5);
    }

    /** Asks all that can be asked without changing the net, in 24 calls. */
    static String answers(CellNets x) {
        StringBuilder all = new StringBuilder();
        all.append(x.cells()).append(' ').append(x.facing()).append(' ').append(x.steps());
        all.append(' ').append(x.loops()).append(' ').append(x.open());
        for (int kind = 0; kind < 3; kind++) {
            all.append(' ').append(x.left(kind));
        }
        for (int e = 0; e < 4; e++) {
            all.append(' ').append(x.reach(e)).append(' ').append(x.walk(e, 0));
            all.append(' ').append(x.walk(e, 1)).append(' ').append(x.walk(e, 1234));
        }
        return all.toString();
    }

    /**
     * Every wire and every cell's kind, in at most 66 calls. Takes the wires away, as the kind of
     * a cell shows only when an end is joined to it.
     */
    static String takenApart(CellNets x) {
        StringBuilder all = new StringBuilder();
        int cells = x.cells();
        all.append(cells).append(" cells, wires");
        for (int p = 0; p < 34; p++) {
            all.append(' ').append(x.cut(p));
        }
        all.append(", kinds");
        for (int c = 0; c < cells; c++) {
            x.join(3 * c, 30);
            all.append(' ').append(x.walk(0, 0) / 3);
            x.cut(30);
        }
        return all.toString();
    }

    /** That x has the same cells and wires as the net given, and answers the same. Takes x apart. */
    static void unchanged(String after, CellNets x, int[] kinds, int... ports) {
        CellNets twin = of(kinds, ports);
        Check.same("answers after " + after, answers(x), answers(twin));
        Check.same("cells and wires after " + after, takenApart(x), takenApart(twin));
    }
}
