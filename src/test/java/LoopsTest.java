/** Promise 10: loops. */
public final class LoopsTest {
    private static void loops(int due, int[] kinds, int... ports) {
        CellNets x = Nets.of(kinds, ports);
        Check.due("loops()", x.loops(), due);
        Check.due("loops() again", x.loops(), due);
    }

    private static void none() {
        Check.due("loops() of a new object", new CellNets().loops(), 0);
        loops(0, Nets.kinds(2, 2), 0, 3);
        loops(0, Nets.kinds(0), 30, 31, 32, 33, 0, 1);
        for (int kind = 0; kind < 2; kind++) {
            int[] two = Nets.kinds(kind, kind);
            loops(0, two, 0, 3);
            // A ring that an open port or an end breaks is none.
            loops(0, two, 0, 3, 1, 2);
            loops(0, two, 0, 3, 4, 5);
            loops(0, two, 0, 3, 1, 5);
            loops(0, two, 0, 3, 1, 2, 4, 30, 5, 31);
            // Without a step, or without a step of this sort, there is no loop.
            loops(0, two, 1, 4, 2, 5);
            loops(0, Nets.kinds(kind, 2), 0, 3, 1, 2);
        }
    }

    private static void some() {
        for (int kind = 0; kind < 2; kind++) {
            int[] two = Nets.kinds(kind, kind);
            loops(1, two, 0, 3, 1, 4);
            loops(1, two, 3, 0, 5, 2);
            loops(2, two, 0, 3, 1, 4, 2, 5);
            // A ring through all four sides is one loop, crossed or not.
            loops(1, two, 0, 3, 1, 5, 2, 4);
            loops(1, two, 0, 3, 1, 2, 4, 5);
            // A ring through the sides of four cells: the last of two steps makes the loop.
            loops(1, Nets.kinds(kind, kind, 1, 1), 0, 3, 6, 9, 1, 7, 4, 10);
        }
        loops(1, Nets.kinds(0, 1), 0, 3, 1, 2, 4, 5);
        loops(4, Nets.kinds(0, 0, 1, 1), 0, 3, 1, 4, 2, 5, 6, 9, 7, 10, 8, 11);
        // Two a step, the most that ten cells have without a copy.
        loops(10, Nets.kinds(0, 0, 1, 1, 0, 0, 1, 1, 0, 0), 0, 3, 1, 4, 2, 5, 6, 9, 7, 10, 8, 11,
            12, 15, 13, 16, 14, 17, 18, 21, 19, 22, 20, 23, 24, 27, 25, 28, 26, 29);
        loops(16, LongNets.KINDS[0], LongNets.WIRES[0]);
        loops(1, Nets.KINDS_120, Nets.WIRES_120);
    }

    private static void tired() {
        loops(Nets.TIRED, Nets.KINDS_121, Nets.WIRES_121);
        // Loops that an unfinished run has made are not told, nor added to the next run's.
        CellNets x = Nets.of(Nets.kinds(0, 0, 0, 1), 0, 3, 1, 4, 2, 5, 6, 9, 7, 10, 8, 11);
        Check.due("loops()", x.loops(), Nets.TIRED);
        Check.due("cut(6)", x.cut(6), 9);
        Check.due("loops()", x.loops(), 2);
    }

    public static void main(String[] args) {
        Check.sentence("How many loops the run makes");
        none();
        some();
        Check.sentence("TIRED");
        tired();
        Check.end();
    }
}
