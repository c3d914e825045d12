/** Terms: what running the net is, and when it is tired. */
public final class TermsRunTest {
    private static long seed = 5;

    private static int pick(int bound) {
        seed = seed * 6364136223846793005L + 1442695040888963407L;
        return (int) ((seed >>> 33) % bound);
    }

    private static void untilNothingFaces() {
        // Each step brings two more heads together.
        CellNets chain = Nets.of(Nets.kinds(0, 0, 1, 1, 0, 0, 1, 1, 2, 2),
            0, 3, 1, 6, 4, 9, 7, 12, 10, 15, 13, 18, 16, 21, 19, 24, 22, 27);
        Check.due("facing()", chain.facing(), 1);
        Check.due("steps()", chain.steps(), 5);
        Check.due("left(0)", chain.left(0), 0);
        Check.due("left(1)", chain.left(1), 0);
        Check.due("left(2)", chain.left(2), 0);
        // An eraser goes down nine pairs, and leaves one at each open side.
        CellNets erased = Nets.of(Nets.kinds(2, 0, 1, 0, 1, 0, 1, 0, 1, 0),
            0, 3, 4, 6, 7, 9, 10, 12, 13, 15, 16, 18, 19, 21, 22, 24, 25, 27);
        Check.due("steps()", erased.steps(), 9);
        Check.due("left(2)", erased.left(2), 10);
        Check.due("open()", erased.open(), 10);
        Check.due("steps() of none", new CellNets().steps(), 0);
    }

    private static int[] order(int cells) {
        int[] order = new int[cells];
        for (int c = 0; c < cells; c++) {
            int other = pick(c + 1);
            order[c] = order[other];
            order[other] = c;
        }
        return order;
    }

    /** The same net with its cells numbered anew, so that a run comes upon them in another order. */
    private static CellNets renumbered(int[] kinds, int[] wires) {
        int[] order = order(kinds.length);
        int[] newKinds = new int[kinds.length];
        for (int c = 0; c < kinds.length; c++) {
            newKinds[order[c]] = kinds[c];
        }
        int[] newWires = new int[wires.length];
        for (int i = 0; i < wires.length; i++) {
            int p = wires[i];
            newWires[i] = p >= 30 ? p : 3 * order[p / 3] + p % 3;
        }
        return Nets.of(newKinds, newWires);
    }

    private static void anyOrder(int[] kinds, int[] wires) {
        String due = Nets.answers(Nets.of(kinds, wires));
        for (int i = 0; i < 5; i++) {
            Check.same("answers with other numbers", Nets.answers(renumbered(kinds, wires)), due);
        }
    }

    private static void inAnyOrder() {
        for (int i = 0; i < LongNets.STEPS.length; i++) {
            anyOrder(LongNets.KINDS[i], LongNets.WIRES[i]);
        }
        anyOrder(Nets.kinds(0, 0, 1, 1, 0, 1, 2, 0, 2, 1),
            new int[] {0, 3, 6, 12, 9, 18, 15, 21, 1, 7, 2, 10, 4, 30, 5, 13, 14, 31, 16, 24, 17, 32, 22, 27, 28, 33});
        anyOrder(Nets.kinds(0, 1, 2, 0, 0), new int[] {0, 3, 1, 6, 2, 9, 4, 12, 5, 10, 11, 30, 13, 31, 14, 32});
    }

    private static void sixCallsTired(CellNets x) {
        Check.due("steps()", x.steps(), Nets.TIRED);
        Check.due("loops()", x.loops(), Nets.TIRED);
        Check.due("open()", x.open(), Nets.TIRED);
        for (int kind = 0; kind < 3; kind++) {
            Check.due("left(" + kind + ")", x.left(kind), Nets.TIRED);
        }
        for (int e = 0; e < 4; e++) {
            Check.due("reach(" + e + ")", x.reach(e), Nets.TIRED);
            Check.due("walk(" + e + ", 0)", x.walk(e, 0), Nets.TIRED);
            Check.due("walk(" + e + ", 4095)", x.walk(e, 4095), Nets.TIRED);
        }
    }

    private static void sixCallsNotTired(CellNets x) {
        Check.due("steps()", x.steps() == Nets.TIRED ? 1 : 0, 0);
        Check.due("loops()", x.loops() == Nets.TIRED ? 1 : 0, 0);
        Check.due("open()", x.open() == Nets.TIRED ? 1 : 0, 0);
        Check.due("left(2)", x.left(2) == Nets.TIRED ? 1 : 0, 0);
        Check.due("reach(3)", x.reach(3) == Nets.TIRED ? 1 : 0, 0);
        Check.due("walk(3, 0)", x.walk(3, 0) == Nets.TIRED ? 1 : 0, 0);
    }

    private static void about120Steps() {
        for (int i = 0; i < LongNets.STEPS.length; i++) {
            int steps = LongNets.STEPS[i];
            NetModel unbounded = NetModel.of(1000, LongNets.KINDS[i], LongNets.WIRES[i]);
            for (int order = 0; order < 5; order++) {
                Check.due("the model's steps", unbounded.steps(), steps);
            }
            if (LongNets.isTired(i)) {
                sixCallsTired(LongNets.of(i));
            } else {
                Check.due("steps()", LongNets.of(i).steps(), steps);
                sixCallsNotTired(LongNets.of(i));
                leftAsTheModelSays(LongNets.of(i), unbounded);
            }
        }
    }

    /** The answers that other tests expect of the long nets can't be worked out by hand. */
    private static void leftAsTheModelSays(CellNets x, NetModel m) {
        Check.due("loops()", x.loops(), m.loops());
        Check.due("open()", x.open(), m.open());
        for (int kind = 0; kind < 3; kind++) {
            Check.due("left(" + kind + ")", x.left(kind), m.left(kind));
        }
        for (int e = 0; e < 4; e++) {
            Check.due("reach(" + e + ")", x.reach(e), m.reach(e));
            for (int turns = 0; turns < 4096; turns += 63) {
                Check.due("walk(" + e + ", " + turns + ")", x.walk(e, turns), m.walk(e, turns));
            }
        }
    }

    private static void forEver() {
        // Every step of this one puts four cells in, the most there can be.
        sixCallsTired(Nets.endless());
        // What goes on for ever may have no end, nor be near what does come to rest.
        sixCallsTired(Nets.of(Nets.kinds(2, 2, 0, 1), 0, 3, 6, 9, 7, 10));
        sixCallsTired(Nets.of(Nets.kinds(0, 1, 0), 0, 3, 1, 5, 6, 30, 7, 31, 8, 32));
    }

    private static void restedAfterACut() {
        CellNets x = Nets.endless();
        sixCallsTired(x);
        Check.due("cut(0)", x.cut(0), 3);
        sixCallsNotTired(x);
        Check.due("steps()", x.steps(), 0);
        Check.due("join(3, 0)", x.join(3, 0), 0);
        sixCallsTired(x);
        x.clear();
        sixCallsNotTired(x);
    }

    private static void staysAsItIs(int[] kinds, int... wires) {
        CellNets x = Nets.of(kinds, wires);
        for (int i = 0; i < 3; i++) {
            Nets.answers(x);
        }
        Nets.unchanged("many runs", x, kinds, wires);
    }

    private static void doneOnACopy() {
        staysAsItIs(Nets.kinds());
        staysAsItIs(Nets.kinds(0, 0), 0, 3, 1, 4, 2, 30, 5, 31);
        staysAsItIs(Nets.kinds(1, 1, 0), 0, 3, 4, 6);
        staysAsItIs(Nets.kinds(2, 2), 0, 3);
        staysAsItIs(Nets.kinds(0, 2), 0, 3, 1, 33);
        staysAsItIs(Nets.kinds(0, 1), 0, 3, 1, 30, 2, 31, 4, 32, 5, 33);
        staysAsItIs(Nets.kinds(0, 1), 0, 3, 1, 4, 2, 5);
        for (int i = 0; i < LongNets.STEPS.length; i++) {
            staysAsItIs(LongNets.KINDS[i], LongNets.WIRES[i]);
        }
    }

    public static void main(String[] args) {
        Check.sentence("RUNNING the net does steps as long as cells face each other");
        untilNothingFaces();
        Check.sentence("in any order (how many steps it takes, and what is left, does not depend on it)");
        inAnyOrder();
        Check.sentence("but not if it would take more than 120 steps");
        about120Steps();
        forEver();
        restedAfterACut();
        Check.sentence("The net itself, as it was put together, stays as it is; a run is done on a copy.");
        doneOnACopy();
        Check.end();
    }
}
