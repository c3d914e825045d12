/** Promise 11: walk. */
public final class WalkTest {
    private static void walk(CellNets x, int e, int turns, int due) {
        Check.due("walk(" + e + ", " + turns + ")", x.walk(e, turns), due);
    }

    private static void fromEachEnd() {
        CellNets x = Nets.of(Nets.kinds(0, 1, 2), 30, 1, 31, 5, 32, 6);
        walk(x, 0, 0, 1);
        walk(x, 1, 0, 5);
        walk(x, 2, 0, 6);
        walk(x, 3, 0, 9);
    }

    private static void everyPortOfACell() {
        int[] ports = {3, 3, 1};
        for (int kind = 0; kind < 3; kind++) {
            for (int s = 0; s < ports[kind]; s++) {
                for (int e = 0; e < 4; e++) {
                    walk(Nets.of(Nets.kinds(2, kind), 30 + e, 3 + s), e, 0, 3 * kind + s);
                }
            }
        }
    }

    private static void turnsAtEachPort(boolean odd) {
        int[] turnsOfThisSort = odd ? new int[] {1, 3, 5, 2047, 4095} : new int[] {2, 4, 6, 2048, 4094};
        for (int kind = 0; kind < 2; kind++) {
            CellNets x = Nets.of(Nets.kinds(kind), 30, 0, 31, 1, 32, 2);
            for (int turns : turnsOfThisSort) {
                // The cyclic order: behind 2 comes 0 again.
                walk(x, 0, turns, odd ? 11 : 12);
                walk(x, 1, turns, odd ? 12 : 10);
                walk(x, 2, turns, odd ? 10 : 11);
            }
        }
    }

    private static void oneTurnAPair() {
        // A chain of pairs from head to side 1, the last of them joined to itself.
        CellNets x = Nets.of(Nets.kinds(0, 1, 0, 1), 30, 0, 1, 3, 4, 6, 7, 9, 10, 11, 31, 2, 32, 5, 33, 8);
        walk(x, 0, 0, 0);
        walk(x, 0, 1, 3);
        walk(x, 0, 3, 0);
        walk(x, 0, 7, 3);
        walk(x, 0, 15, 5);
        walk(x, 0, 2, 11);
        walk(x, 0, 5, 12);
        walk(x, 0, 11, 13);
        // Around the ring, one way and the other, and back up the chain.
        walk(x, 0, 31, 1);
        walk(x, 0, 63, 13);
        walk(x, 0, 95, 12);
        walk(x, 0, 159, 11);
        walk(x, 0, 287, 10);
        walk(x, 0, 23, 4);
        walk(x, 0, 39, 13);
    }

    private static void twelveOddTurns() {
        // Ten pairs from head to side 1; the last one turns back, and side 2 of the last but one is an end's.
        CellNets x = Nets.of(Nets.kinds(0, 1, 0, 1, 0, 1, 0, 1, 0, 1), 30, 0, 1, 3, 4, 6, 7, 9, 10, 12,
            13, 15, 16, 18, 19, 21, 22, 24, 25, 27, 28, 29, 26, 33);
        int[] due = {0, 3, 0, 3, 0, 3, 0, 3, 0, 3, 5, 1, 13};
        for (int k = 0; k <= 12; k++) {
            walk(x, 0, (1 << k) - 1, due[k]);
        }
    }

    private static void elevenEvenTurns() {
        // The same with side 2, and then side 1 by the last turn, which is odd.
        CellNets x = Nets.of(Nets.kinds(0, 1, 0, 1, 0, 1, 0, 1, 0, 1), 30, 0, 2, 3, 5, 6, 8, 9, 11, 12,
            14, 15, 17, 18, 20, 21, 23, 24, 26, 27, 28, 29, 22, 33, 1, 31);
        int[] due = {11, 9, 9, 9, 9, 9, 9, 13, 9, 5, 4, 5};
        for (int k = 0; k < 12; k++) {
            walk(x, 0, 1 << k, due[k]);
        }
    }

    private static void aroundOnePair() {
        CellNets x = Nets.of(Nets.kinds(1), 33, 0, 1, 2);
        walk(x, 3, 1, 5);
        walk(x, 3, 2, 4);
        walk(x, 3, 3, 13);
        walk(x, 3, 4, 13);
        walk(x, 3, 2046, 4);
        walk(x, 3, 4094, 4);
        walk(x, 3, 2049, 13);
        walk(x, 3, 4095, 13);
    }

    private static void openPorts() {
        int[] someTurns = {1, 2, 3, 4, 2048, 4094, 4095};
        for (int kind = 0; kind < 2; kind++) {
            for (int s = 0; s < 3; s++) {
                CellNets x = Nets.of(Nets.kinds(kind), 30, s);
                walk(x, 0, 0, 3 * kind + s);
                for (int turns : someTurns) {
                    walk(x, 0, turns, 9);
                }
            }
        }
        // The second pair's other ports are open: it stops there for want of turns, or can't go on.
        CellNets x = Nets.of(Nets.kinds(0, 1), 30, 0, 1, 4);
        walk(x, 0, 1, 4);
        walk(x, 0, 3, 9);
        walk(x, 0, 5, 9);
        walk(x, 0, 2, 9);
        // An open port that it doesn't go on from is none to stop at.
        CellNets through = Nets.of(Nets.kinds(0), 30, 0, 2, 33);
        walk(through, 0, 1, 9);
        walk(through, 0, 2, 13);
        walk(through, 3, 1, 10);
        walk(through, 3, 2, 9);
    }

    private static void openEnds() {
        CellNets x = Nets.of(Nets.kinds(0, 2), 0, 31, 1, 32, 2, 33);
        for (int turns : new int[] {0, 1, 2, 4094, 4095}) {
            walk(x, 0, turns, 9);
            walk(new CellNets(), 3, turns, 9);
        }
        // A run can make an end open that was not.
        CellNets opened = Nets.of(Nets.kinds(0, 0), 0, 3, 4, 30, 5, 31, 2, 32);
        walk(opened, 0, 0, 9);
        walk(opened, 0, 4095, 9);
        walk(opened, 1, 0, 12);
    }

    private static void toEachEnd() {
        for (int e = 0; e < 4; e++) {
            for (int other = 0; other < 4; other++) {
                if (e != other) {
                    walk(Nets.of(Nets.kinds(), 30 + e, 30 + other), e, 0, 10 + other);
                }
            }
            // Back to the end that it came from.
            walk(Nets.of(Nets.kinds(0), 30 + e, 0, 1, 2), e, 3, 10 + e);
        }
    }

    private static void stopsWhateverTurnsIs() {
        CellNets ends = Nets.of(Nets.kinds(), 30, 33, 32, 31);
        int[] other = {13, 12, 11, 10};
        CellNets erasers = Nets.of(Nets.kinds(2, 0, 2), 30, 0, 31, 3, 4, 6);
        for (int turns : new int[] {0, 1, 2, 3, 4, 2047, 2048, 4094, 4095}) {
            for (int e = 0; e < 4; e++) {
                walk(ends, e, turns, other[e]);
            }
            walk(erasers, 0, turns, 6);
        }
        for (int turns : new int[] {1, 3, 5, 2047, 4095}) {
            walk(erasers, 1, turns, 6);
        }
    }

    private static void throughWhatIsLeft() {
        CellNets vanished = Nets.of(Nets.kinds(1, 1), 0, 3, 1, 30, 2, 31, 4, 32, 5, 33);
        walk(vanished, 0, 0, 12);
        walk(vanished, 1, 0, 13);
        walk(vanished, 2, 4095, 10);
        walk(vanished, 3, 1, 11);

        CellNets around = Nets.of(Nets.kinds(0, 0), 0, 3, 1, 2, 4, 30, 5, 31);
        walk(around, 0, 0, 11);
        walk(around, 1, 0, 10);

        CellNets erased = Nets.of(Nets.kinds(2, 0), 0, 3, 4, 30, 5, 33);
        walk(erased, 0, 0, 6);
        walk(erased, 3, 77, 6);
        walk(erased, 1, 0, 9);

        CellNets copied = Nets.of(Nets.kinds(1, 0), 0, 3, 1, 30, 2, 31, 4, 32, 5, 33);
        // Here the pair of kind 0 has the ends 32 and 33, and that of kind 1 the ends 30 and 31.
        walk(copied, 0, 0, 0);
        walk(copied, 2, 0, 3);
        walk(copied, 2, 1, 1);
        walk(copied, 2, 2, 5);
        walk(copied, 2, 3, 4);
        walk(copied, 2, 4, 11);
        walk(copied, 2, 6, 13);
        walk(copied, 3, 1, 2);
        walk(copied, 0, 1, 4);
        walk(copied, 0, 2, 2);
        walk(copied, 1, 2, 13);
    }

    private static void wrongEnds(CellNets x) {
        walk(x, -1, 0, Nets.BAD_ARG);
        walk(x, -1, 4095, Nets.BAD_ARG);
        for (int e = 4; e < 40; e++) {
            walk(x, e, 0, Nets.BAD_ARG);
        }
        for (int e : Nets.OUT_OF_RANGE) {
            walk(x, e, 1, Nets.BAD_ARG);
        }
    }

    private static void wrongTurns(CellNets x) {
        for (int e = 0; e < 4; e++) {
            walk(x, e, -1, Nets.BAD_ARG);
            walk(x, e, 4096, Nets.BAD_ARG);
            for (int turns : Nets.OUT_OF_RANGE) {
                walk(x, e, turns, Nets.BAD_ARG);
            }
        }
        walk(x, -1, -1, Nets.BAD_ARG);
        walk(x, 4, 4096, Nets.BAD_ARG);
    }

    private static void tired(CellNets x) {
        for (int e = 0; e < 4; e++) {
            walk(x, e, 0, Nets.TIRED);
            walk(x, e, 1, Nets.TIRED);
            walk(x, e, 4095, Nets.TIRED);
        }
    }

    public static void main(String[] args) {
        CellNets[] nets = {new CellNets(), Nets.of(Nets.kinds(0, 2), 0, 30, 1, 31, 3, 32)};
        CellNets[] tiredNets = {Nets.endless(), Nets.of(Nets.KINDS_121, Nets.WIRES_121)};

        Check.sentence("Goes from end e (0 to 3 for the ends 30 to 33) over the wire to a port");
        fromEachEnd();
        Check.sentence("if turns is 0 it stays there: 3 times the kind plus the port's s (0 to 2) for a cell");
        everyPortOfACell();
        Check.sentence("from the first of its other two ports in the cyclic order 0, 1, 2 if turns is odd");
        turnsAtEachPort(true);
        Check.sentence("from the second if it is even and not 0");
        turnsAtEachPort(false);
        Check.sentence("turns becomes turns / 2 (rounded down), again and again");
        oneTurnAPair();
        twelveOddTurns();
        elevenEvenTurns();
        aroundOnePair();
        Check.sentence("9 for an open port from which it can't go on");
        openPorts();
        Check.sentence("(or an end that is open)");
        openEnds();
        Check.sentence("10 to 13 for the ends 30 to 33");
        toEachEnd();
        Check.sentence("it stops at ends and at erasers whatever turns is");
        stopsWhateverTurnsIs();
        Check.sentence("through what is left by the run");
        throughWhatIsLeft();
        Check.sentence("BAD_ARG if e is not 0 to 3");
        for (CellNets x : nets) {
            wrongEnds(x);
        }
        Check.sentence("or turns not 0 to 4095");
        for (CellNets x : nets) {
            wrongTurns(x);
        }
        Check.sentence("BAD_ARG if e is not 0 to 3 or turns not 0 to 4095, tested first; TIRED");
        for (CellNets x : tiredNets) {
            wrongEnds(x);
            wrongTurns(x);
            tired(x);
        }
        Check.end();
    }
}
