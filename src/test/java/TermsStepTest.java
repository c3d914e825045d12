/** Terms: what a step does, sentence by sentence. In the nets here cells 0 and 1 face each other. */
public final class TermsStepTest {
    private static void ends(CellNets x, int... due) {
        for (int e = 0; e < 4; e++) {
            Check.due("walk(" + e + ", 0)", x.walk(e, 0), due[e]);
        }
    }

    private static void left(CellNets x, int zeros, int ones, int erasers) {
        Check.due("left(0)", x.left(0), zeros);
        Check.due("left(1)", x.left(1), ones);
        Check.due("left(2)", x.left(2), erasers);
    }

    private static void twoCellsOut() {
        // The cells that don't face stay, even if they are joined to those that do.
        CellNets x = Nets.of(Nets.kinds(0, 0, 1, 2), 0, 3, 1, 7, 4, 9);
        left(x, 0, 1, 1);
        Check.due("steps()", x.steps(), 1);
        Check.due("open() of the heads' wire", Nets.of(Nets.kinds(1, 1), 0, 3).open(), 0);
    }

    private static void madeOneWire(int kind) {
        int[] two = Nets.kinds(kind, kind);
        ends(Nets.of(two, 0, 3, 1, 30, 2, 31, 4, 32, 5, 33), 12, 13, 10, 11);
        ends(Nets.of(two, 3, 0, 1, 33, 2, 32, 4, 30, 5, 31), 13, 12, 11, 10);
        left(Nets.of(two, 0, 3, 1, 30, 2, 31, 4, 32, 5, 33), 0, 0, 0);
        // The one wire may join two ports of one cell, or two heads.
        CellNets bent = Nets.of(Nets.kinds(kind, kind, 1), 0, 3, 1, 7, 4, 8, 6, 30);
        Check.due("walk(0, 1)", bent.walk(0, 1), 5);
        Check.due("walk(0, 2)", bent.walk(0, 2), 4);
        Check.due("open()", bent.open(), 0);
        CellNets heads = Nets.of(Nets.kinds(kind, kind, 2, 2), 0, 3, 2, 6, 5, 9);
        Check.due("steps()", heads.steps(), 2);
        left(heads, 0, 0, 0);
    }

    private static void oneIsOpen(int kind) {
        int[] two = Nets.kinds(kind, kind);
        // Of the ports 1 that of cell 0, of the ports 2 that of cell 1; then the other way about.
        ends(Nets.of(two, 0, 3, 4, 30, 2, 31), 9, 9, 9, 9);
        ends(Nets.of(two, 0, 3, 1, 32, 5, 33), 9, 9, 9, 9);
        // The far port is a cell's: a head, a side.
        CellNets head = Nets.of(Nets.kinds(kind, kind, 1, 2), 0, 3, 1, 6, 5, 9, 7, 30);
        Check.due("open()", head.open(), 3);
        Check.due("walk(0, 2)", head.walk(0, 2), 9);
        Check.due("reach(0)", head.reach(0), 1);
        CellNets side = Nets.of(Nets.kinds(kind, kind, 0), 0, 3, 4, 8, 6, 30, 7, 31);
        Check.due("open()", side.open(), 1);
        Check.due("walk(0, 2)", side.walk(0, 2), 9);
        Check.due("walk(0, 1)", side.walk(0, 1), 11);
    }

    private static void bothAreOpen(int kind) {
        CellNets x = Nets.of(Nets.kinds(kind, kind), 0, 3);
        Check.due("open()", x.open(), 0);
        Check.due("loops()", x.loops(), 0);
        left(x, 0, 0, 0);
        // One of the two sorts of sides alone.
        ends(Nets.of(Nets.kinds(kind, kind), 0, 3, 1, 30, 4, 31), 11, 10, 9, 9);
        ends(Nets.of(Nets.kinds(kind, kind), 0, 3, 2, 30, 5, 31), 11, 10, 9, 9);
    }

    private static void openAfterTheOtherSide(int kind) {
        int[] two = Nets.kinds(kind, kind);
        // For s = 1 a port 2 of these cells becomes open, so for s = 2 the end does.
        ends(Nets.of(two, 0, 3, 1, 2, 5, 30), 9, 9, 9, 9);
        ends(Nets.of(two, 0, 3, 1, 5, 2, 30), 9, 9, 9, 9);
        ends(Nets.of(two, 0, 3, 4, 5, 2, 30), 9, 9, 9, 9);
        ends(Nets.of(two, 0, 3, 4, 2, 5, 30), 9, 9, 9, 9);
        // For s = 1 a port 2 of these cells gets the end, whose wire then ends at an open port.
        ends(Nets.of(two, 0, 3, 1, 2, 4, 30), 9, 9, 9, 9);
        ends(Nets.of(two, 0, 3, 1, 5, 4, 30), 9, 9, 9, 9);
        ends(Nets.of(two, 0, 3, 4, 5, 1, 30), 9, 9, 9, 9);
        ends(Nets.of(two, 0, 3, 4, 2, 1, 30), 9, 9, 9, 9);
    }

    private static void throughBothSides(int kind) {
        int[] two = Nets.kinds(kind, kind);
        ends(Nets.of(two, 0, 3, 1, 2, 4, 30, 5, 31), 11, 10, 9, 9);
        ends(Nets.of(two, 0, 3, 4, 5, 1, 32, 2, 33), 9, 9, 13, 12);
        ends(Nets.of(two, 0, 3, 1, 5, 4, 30, 2, 33), 13, 9, 9, 10);
        ends(Nets.of(two, 0, 3, 2, 4, 1, 31, 5, 32), 9, 12, 11, 9);
    }

    private static void loop(int kind) {
        int[] two = Nets.kinds(kind, kind);
        CellNets one = Nets.of(two, 0, 3, 1, 4, 2, 30, 5, 31);
        Check.due("loops() of ports 1", one.loops(), 1);
        ends(one, 11, 10, 9, 9);
        CellNets other = Nets.of(two, 0, 3, 2, 5, 1, 30, 4, 31);
        Check.due("loops() of ports 2", other.loops(), 1);
        ends(other, 11, 10, 9, 9);
        CellNets both = Nets.of(two, 0, 3, 2, 5, 1, 4);
        Check.due("loops() of both", both.loops(), 2);
        Check.due("open()", both.open(), 0);
        left(both, 0, 0, 0);
        // The ring through all four sides has become a wire of both ports 2 when their turn comes.
        Check.due("loops() of a ring", Nets.of(two, 0, 3, 1, 2, 4, 5).loops(), 1);
        Check.due("loops() of a ring", Nets.of(two, 0, 3, 1, 5, 2, 4).loops(), 1);
    }

    private static void nothingMore() {
        CellNets x = Nets.of(Nets.kinds(2, 2, 0), 0, 3, 6, 30);
        Check.due("steps()", x.steps(), 1);
        Check.due("loops()", x.loops(), 0);
        Check.due("open()", x.open(), 2);
        left(x, 1, 0, 0);
        ends(x, 0, 9, 9, 9);
    }

    private static void twoNewErasers(int kind) {
        for (int pair = 0; pair < 2; pair++) {
            int[] kinds = pair == 0 ? Nets.kinds(kind, 2) : Nets.kinds(2, kind);
            int one = 3 * pair + 1;
            int two = 3 * pair + 2;
            CellNets x = Nets.of(kinds, 0, 3, one, 32, two, 30);
            Check.due("steps()", x.steps(), 1);
            left(x, 0, 0, 2);
            ends(x, 6, 9, 6, 9);
            Check.due("reach(0)", x.reach(0), 1);
            Check.due("open()", x.open(), 0);
            // If the pair's port is open, the eraser's head stays open.
            CellNets first = Nets.of(kinds, 0, 3, one, 31);
            left(first, 0, 0, 2);
            ends(first, 9, 6, 9, 9);
            Check.due("open()", first.open(), 1);
            CellNets second = Nets.of(kinds, 0, 3, two, 31);
            ends(second, 9, 6, 9, 9);
            Check.due("open()", second.open(), 1);
            Check.due("open()", Nets.of(kinds, 0, 3).open(), 2);
            // The wire of port 1 goes to port 2: the new erasers face each other.
            CellNets bent = Nets.of(kinds, 0, 3, one, two);
            Check.due("steps()", bent.steps(), 2);
            Check.due("loops()", bent.loops(), 0);
            left(bent, 0, 0, 0);
        }
    }

    private static void walk(CellNets x, int e, int turns, int due) {
        Check.due("walk(" + e + ", " + turns + ")", x.walk(e, turns), due);
    }

    /** A net of pairs c of kind 0, with the ends 30 and 31, and d of kind 1, with 32 and 33. */
    private static void fourNewPairs(CellNets x) {
        Check.due("steps()", x.steps(), 1);
        left(x, 2, 2, 0);
        Check.due("open()", x.open(), 0);
        Check.due("loops()", x.loops(), 0);
        // The heads of d1 and d2 get the wires of c, those of c1 and c2 the wires of d.
        ends(x, 3, 3, 0, 0);
        for (int e = 0; e < 4; e++) {
            Check.due("reach(" + e + ")", x.reach(e), 4);
        }
        // Port 1 of d1 with port 1 of c1, whose heads the ends 30 and 32 have.
        walk(x, 0, 1, 1);
        walk(x, 0, 5, 12);
        walk(x, 2, 1, 4);
        walk(x, 2, 5, 10);
        // Port 2 of d1 with port 1 of c2: 30 and 33.
        walk(x, 0, 4, 13);
        walk(x, 3, 1, 5);
        walk(x, 3, 3, 10);
        // Port 1 of d2 with port 2 of c1: 31 and 32.
        walk(x, 1, 1, 2);
        walk(x, 1, 3, 12);
        walk(x, 2, 4, 11);
        // Port 2 of d2 with port 2 of c2: 31 and 33.
        walk(x, 1, 2, 13);
        walk(x, 3, 2, 11);
    }

    private static void copies() {
        fourNewPairs(Nets.of(Nets.kinds(0, 1), 0, 3, 1, 30, 2, 31, 4, 32, 5, 33));
        fourNewPairs(Nets.of(Nets.kinds(1, 0), 0, 3, 4, 30, 5, 31, 1, 32, 2, 33));
    }

    private static void openPortsOfPairsThatCopy() {
        int[] sides = {1, 2, 4, 5};
        for (int open = 0; open < 4; open++) {
            CellNets x = Nets.of(Nets.kinds(0, 1), 0, 3, 1, 30, 2, 31, 4, 32, 5, 33);
            Check.due("cut(" + sides[open] + ")", x.cut(sides[open]), 30 + open);
            left(x, 2, 2, 0);
            Check.due("open()", x.open(), 1);
            int[] due = {3, 3, 0, 0};
            due[open] = 9;
            ends(x, due);
        }
        Check.due("open()", Nets.of(Nets.kinds(0, 1), 0, 3).open(), 4);
        // The head that stays open is d1's: from c1 over its port 1 nothing goes on there.
        CellNets x = Nets.of(Nets.kinds(0, 1), 0, 3, 2, 31, 4, 32, 5, 33);
        walk(x, 2, 1, 4);
        walk(x, 2, 5, 9);
        walk(x, 3, 3, 9);
        walk(x, 2, 4, 11);
    }

    private static void sidesJoinedToSides() {
        // The heads of d1 and d2 come to face each other, and vanish; c1 and c2 are left.
        CellNets c = Nets.of(Nets.kinds(0, 1), 0, 3, 1, 2, 4, 32, 5, 33);
        Check.due("steps()", c.steps(), 2);
        left(c, 2, 0, 0);
        ends(c, 9, 9, 0, 0);
        walk(c, 2, 1, 2);
        walk(c, 3, 2, 1);
        walk(c, 2, 3, 12);
        Check.due("reach(2)", c.reach(2), 1);
        Check.due("open()", c.open(), 0);
        CellNets d = Nets.of(Nets.kinds(0, 1), 0, 3, 4, 5, 1, 30, 2, 31);
        Check.due("steps()", d.steps(), 2);
        left(d, 0, 2, 0);
        ends(d, 3, 3, 9, 9);
        walk(d, 0, 1, 5);
        walk(d, 1, 2, 4);
        // Both: the two that are left face each other, and their sides are one ring.
        CellNets both = Nets.of(Nets.kinds(0, 1), 0, 3, 1, 2, 5, 4);
        Check.due("steps()", both.steps(), 3);
        Check.due("loops()", both.loops(), 1);
        left(both, 0, 0, 0);
        // A copy of the one faces a copy of the other, joined by a side as these were: for ever.
        for (int side : new int[] {1, 2}) {
            for (int other : new int[] {4, 5}) {
                CellNets x = Nets.of(Nets.kinds(0, 1), 0, 3, side, other);
                Check.due("steps() with " + side + " at " + other, x.steps(), Nets.TIRED);
            }
        }
    }

    public static void main(String[] args) {
        Check.sentence("A STEP takes two cells that face each other out, with the wire between their heads");
        twoCellsOut();
        for (int kind = 0; kind < 2; kind++) {
            Check.sentence("for s = 1 and for s = 2, the wires of both ports s are made one wire");
            madeOneWire(kind);
            throughBothSides(kind);
            Check.sentence("if one of the ports is open, the port at the other end of the other's wire becomes open");
            oneIsOpen(kind);
            bothAreOpen(kind);
            openAfterTheOtherSide(kind);
            Check.sentence("if a wire joins both ports s to each other, it vanishes and counts as a LOOP");
            loop(kind);
        }
        Check.sentence("both are erasers: nothing more");
        nothingMore();
        Check.sentence("an eraser and a pair: two new erasers are put in");
        twoNewErasers(0);
        twoNewErasers(1);
        Check.sentence("a pair c of kind 0 and a pair d of kind 1: four new pairs are put in");
        copies();
        Check.sentence("if y is open, x stays open");
        openPortsOfPairsThatCopy();
        Check.sentence("if it goes to a port z that is itself taken out, it is handled when the wire of z is");
        sidesJoinedToSides();
        Check.end();
    }
}
