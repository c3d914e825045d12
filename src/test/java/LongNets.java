/** Nets whose runs take about as many steps as a run may; found by search. */
final class LongNets {
    /** How many steps each of the nets takes; TermsRunTest has NetModel confirm it. */
    static final int[] STEPS = {119, 120, 120, 120, 121, 121, 122};

    static final int[][] KINDS = {
        {0, 0, 1, 0, 1, 1, 1, 0, 1, 0},
        Nets.KINDS_120,
        {0, 0, 0, 1, 1, 0, 1, 0, 1, 1},
        {0, 1, 1, 0, 1, 1, 0, 1, 2, 1},
        Nets.KINDS_121,
        {0, 0, 1, 0, 0, 0, 1, 1, 1, 0},
        {1, 0, 1, 1, 1, 1, 1, 0, 1, 0}};

    static final int[][] WIRES = {
        {10, 23, 2, 1, 33, 31, 30, 32, 19, 22, 27, 11, 9, 18, 6, 17, 12, 26, 24, 21, 7, 14, 5, 4,
            13, 15, 0, 28, 3, 29, 20, 25, 8, 16},
        Nets.WIRES_120,
        {13, 33, 10, 12, 4, 26, 21, 8, 31, 14, 20, 28, 27, 0, 2, 3, 9, 29, 5, 17, 1, 7, 6, 16,
            19, 24, 25, 11, 18, 15, 30, 32, 23, 22},
        {32, 30, 15, 8, 5, 16, 29, 4, 13, 11, 28, 14, 27, 22, 7, 3, 1, 10, 21, 0, 17, 24, 9, 20,
            19, 12, 6, 23, 2, 18},
        Nets.WIRES_121,
        {0, 28, 24, 19, 2, 14, 32, 30, 23, 33, 17, 9, 26, 5, 27, 16, 10, 29, 25, 7, 21, 13, 18, 15,
            11, 4, 20, 22, 3, 6, 1, 12, 8, 31},
        {32, 11, 6, 13, 28, 3, 4, 24, 16, 7, 23, 2, 33, 26, 14, 8, 15, 19, 20, 10, 18, 27, 25, 29,
            5, 9, 31, 30, 1, 22, 21, 12, 17, 0}};

    private LongNets() {
    }

    static CellNets of(int i) {
        return Nets.of(KINDS[i], WIRES[i]);
    }

    static boolean isTired(int i) {
        return STEPS[i] > 120;
    }
}
