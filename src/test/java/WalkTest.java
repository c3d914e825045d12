/** Promise 11: walk. */
public final class WalkTest {
    private static void walk(CellNets x, int e, int turns, int due) {
        Check.due("walk(" + e + ", " + turns + ")", x.walk(e, turns), due);
    }

    private static void refused(CellNets x) {
        for (int n : Nets.OUT_OF_RANGE) {
            walk(x, n, 0, Nets.BAD_ARG);
            walk(x, 0, n, Nets.BAD_ARG);
        }
        walk(x, 4, 0, Nets.BAD_ARG);
        walk(x, 30, 0, Nets.BAD_ARG);
        walk(x, 0, 4096, Nets.BAD_ARG);
        walk(x, 4, 4096, Nets.BAD_ARG);
    }

    private static void whereItStops() {
        CellNets x = Nets.of(Nets.kinds(0, 1, 2), 30, 1, 31, 5, 32, 6);
        walk(x, 0, 0, 1);
        walk(x, 1, 0, 5);
        walk(x, 2, 0, 6);
        walk(x, 2, 1, 6);
        walk(x, 2, 4095, 6);
        walk(x, 3, 0, 9);
        walk(x, 3, 4095, 9);
        // The other ports of both pairs are open.
        for (int turns : new int[] {1, 2, 3, 4, 2048, 4094, 4095}) {
            walk(x, 0, turns, 9);
            walk(x, 1, turns, 9);
        }
        CellNets ends = Nets.of(Nets.kinds(), 30, 33, 32, 31);
        int[] other = {13, 12, 11, 10};
        for (int e = 0; e < 4; e++) {
            walk(ends, e, 0, other[e]);
            walk(ends, e, 4095, other[e]);
        }
    }

    private static void turnsAtEachPort() {
        for (int kind = 0; kind < 2; kind++) {
            CellNets x = Nets.of(Nets.kinds(kind), 30, 0, 31, 1, 32, 2);
            for (int e = 0; e < 3; e++) {
                walk(x, e, 0, 3 * kind + e);
                // An end stops it, however many turns are left.
                for (int turns : new int[] {1, 3, 7, 2047, 4095}) {
                    walk(x, e, turns, 10 + (e + 1) % 3);
                }
                for (int turns : new int[] {2, 4, 6, 2048, 4094}) {
                    walk(x, e, turns, 10 + (e + 2) % 3);
                }
            }
        }
    }

    private static void oneTurnAPair() {
        // A chain of pairs from head to side 1, the last of them joined to itself.
        CellNets x = Nets.of(Nets.kinds(0, 1, 0, 1), 30, 0, 1, 3, 4, 6, 7, 9, 10, 11, 31, 2, 32, 5, 33, 8);
        walk(x, 0, 0, 0);
        walk(x, 0, 1, 3);
        walk(x, 0, 3, 0);
        walk(x, 0, 7, 3);
        walk(x, 0, 15, 5);
        walk(x, 0, 2, 11);
        walk(x, 0, 5, 12);
        walk(x, 0, 11, 13);
        // Around the ring, one way and the other, and back up the chain.
        walk(x, 0, 31, 1);
        walk(x, 0, 63, 13);
        walk(x, 0, 95, 12);
        walk(x, 0, 159, 11);
        walk(x, 0, 287, 10);
        walk(x, 0, 23, 4);
        walk(x, 0, 39, 13);
    }

    private static void twelveTurns() {
        CellNets x = Nets.of(Nets.kinds(1), 33, 0, 1, 2);
        walk(x, 3, 1, 5);
        walk(x, 3, 2, 4);
        walk(x, 3, 3, 13);
        walk(x, 3, 4, 13);
        walk(x, 3, 2046, 4);
        walk(x, 3, 4094, 4);
        walk(x, 3, 2049, 13);
        walk(x, 3, 4095, 13);
    }

    private static void afterTheRun() {
        CellNets vanished = Nets.of(Nets.kinds(1, 1), 0, 3, 1, 30, 2, 31, 4, 32, 5, 33);
        walk(vanished, 0, 0, 12);
        walk(vanished, 1, 0, 13);
        walk(vanished, 2, 4095, 10);
        walk(vanished, 3, 1, 11);

        CellNets around = Nets.of(Nets.kinds(0, 0), 0, 3, 1, 2, 4, 30, 5, 31);
        walk(around, 0, 0, 11);
        walk(around, 1, 0, 10);

        CellNets opened = Nets.of(Nets.kinds(0, 0), 0, 3, 4, 30, 5, 31, 2, 32);
        walk(opened, 0, 0, 9);
        walk(opened, 1, 0, 12);

        CellNets erased = Nets.of(Nets.kinds(2, 0), 0, 3, 4, 30, 5, 33);
        walk(erased, 0, 0, 6);
        walk(erased, 3, 77, 6);
        walk(erased, 1, 0, 9);
    }

    private static void throughCopies() {
        CellNets x = Nets.of(Nets.kinds(1, 0), 0, 3, 1, 30, 2, 31, 4, 32, 5, 33);
        // Here the pair of kind 0 has the ends 32 and 33, and that of kind 1 the ends 30 and 31.
        walk(x, 0, 0, 0);
        walk(x, 1, 0, 0);
        walk(x, 2, 0, 3);
        walk(x, 3, 0, 3);
        walk(x, 2, 1, 1);
        walk(x, 2, 2, 5);
        walk(x, 2, 3, 4);
        walk(x, 2, 4, 11);
        walk(x, 2, 6, 13);
        walk(x, 3, 1, 2);
        walk(x, 3, 2, 11);
        walk(x, 0, 1, 4);
        walk(x, 0, 2, 2);
        walk(x, 1, 1, 5);
        walk(x, 1, 2, 13);
    }

    public static void main(String[] args) {
        refused(new CellNets());
        refused(Nets.endless());
        whereItStops();
        turnsAtEachPort();
        oneTurnAPair();
        twelveTurns();
        afterTheRun();
        throughCopies();
        walk(Nets.endless(), 0, 0, Nets.TIRED);
        walk(Nets.endless(), 3, 4095, Nets.TIRED);
        walk(Nets.of(Nets.KINDS_121, Nets.WIRES_121), 0, 0, Nets.TIRED);
        Check.end();
    }
}
