/** Promise 4: cut. */
public final class CutTest {
    private static void takesTheWireAway() {
        CellNets x = Nets.of(Nets.kinds(0, 2), 0, 3, 1, 33, 31, 30);
        Check.due("facing()", x.facing(), 1);
        Check.due("cut(3)", x.cut(3), 0);
        Check.due("facing() after cut(3)", x.facing(), 0);
        Check.due("steps() after cut(3)", x.steps(), 0);
        // The wires that were not cut are still there, and so are the cells.
        Check.due("walk(3, 0)", x.walk(3, 0), 1);
        Check.due("walk(0, 0)", x.walk(0, 0), 11);
        Check.due("cells()", x.cells(), 2);
        Check.due("cut(1)", x.cut(1), 33);
        Check.due("walk(3, 0)", x.walk(3, 0), 9);
        Check.due("open()", x.open(), 4);
    }

    private static void bothPortsAreOpenAgain() {
        CellNets x = Nets.of(Nets.kinds(0, 1), 0, 3);
        Check.due("cut(0)", x.cut(0), 3);
        Check.due("join(0, 30)", x.join(0, 30), 0);
        Check.due("join(3, 31)", x.join(3, 31), 0);
        Check.due("cut(0)", x.cut(0), 30);
        Check.due("cut(3)", x.cut(3), 31);
        Check.due("join(0, 3)", x.join(0, 3), 0);
        Check.due("cut(3)", x.cut(3), 0);
    }

    private static void wrong(CellNets x, int p) {
        Check.due("cut(" + p + ")", x.cut(p), Nets.BAD_ARG);
    }

    private static void noPort() {
        int[] kinds = Nets.kinds(2, 1);
        int[] wires = {0, 30, 3, 4};
        CellNets x = Nets.of(kinds, wires);
        for (int p : Nets.OUT_OF_RANGE) {
            wrong(x, p);
        }
        wrong(x, 1);
        wrong(x, 2);
        for (int p = 6; p < 30; p++) {
            wrong(x, p);
        }
        for (int p = 34; p < 70; p++) {
            wrong(x, p);
        }
        Nets.unchanged("BAD_ARG", x, kinds, wires);
        CellNets full = Nets.of(Nets.kinds(0, 0, 0, 0, 0, 0, 0, 0, 0, 2), 27, 30);
        wrong(full, 28);
        wrong(full, 29);
        wrong(full, 34);
        Check.due("cut(27)", full.cut(27), 30);
    }

    private static void open() {
        int[] kinds = Nets.kinds(0, 1, 2);
        int[] wires = {1, 30};
        CellNets x = Nets.of(kinds, wires);
        for (int p : new int[] {0, 2, 3, 4, 5, 6, 31, 32, 33}) {
            Check.due("cut(" + p + ")", x.cut(p), Nets.NONE);
        }
        Nets.unchanged("NONE", x, kinds, wires);
        CellNets twice = Nets.of(kinds, wires);
        Check.due("cut(30)", twice.cut(30), 1);
        Check.due("cut(30) again", twice.cut(30), Nets.NONE);
        Check.due("cut(1) after cut(30)", twice.cut(1), Nets.NONE);
    }

    private static void thePortAtTheOtherEnd() {
        int[] wires = {0, 3, 1, 2, 4, 30, 6, 5, 31, 33};
        for (int i = 0; i < wires.length; i += 2) {
            int[] kinds = Nets.kinds(0, 1, 2);
            Check.due("cut(" + wires[i] + ")", Nets.of(kinds, wires).cut(wires[i]), wires[i + 1]);
            Check.due("cut(" + wires[i + 1] + ")", Nets.of(kinds, wires).cut(wires[i + 1]), wires[i]);
        }
    }

    public static void main(String[] args) {
        Check.sentence("Takes the wire of port p away.");
        takesTheWireAway();
        bothPortsAreOpenAgain();
        Check.sentence("BAD_ARG if p is no port");
        noPort();
        Check.sentence("NONE if it is open");
        open();
        Check.sentence("Otherwise the port at its other end.");
        thePortAtTheOtherEnd();
        Check.end();
    }
}
