/** Promise 2: cell. */
public final class CellTest {
    private static void refusedKinds(CellNets x) {
        for (int kind : Nets.OUT_OF_RANGE) {
            Check.due("cell(" + kind + ")", x.cell(kind), Nets.BAD_ARG);
        }
        Check.due("cell(3)", x.cell(3), Nets.BAD_ARG);
    }

    private static void numbersAndFull(int kind) {
        CellNets x = new CellNets();
        for (int c = 0; c < 10; c++) {
            refusedKinds(x);
            Check.due("cell(" + kind + ")", x.cell(kind), c);
            Check.due("cells()", x.cells(), c + 1);
            Check.due("left(" + kind + ")", x.left(kind), c + 1);
        }
        String before = Nets.answers(x);
        for (int refused = 0; refused < 3; refused++) {
            Check.due("cell(" + refused + ") of ten", x.cell(refused), Nets.FULL);
        }
        // The kind is looked at before the room.
        refusedKinds(x);
        Check.due("a refused cell changes nothing", Nets.answers(x).equals(before) ? 1 : 0, 1);
    }

    private static void portsAreOpen() {
        CellNets x = new CellNets();
        int[] ports = {3, 3, 1};
        for (int kind = 0; kind < 3; kind++) {
            int before = x.open();
            int c = x.cell(kind);
            Check.due("open() after cell(" + kind + ")", x.open(), before + ports[kind]);
            for (int s = 0; s < ports[kind]; s++) {
                Check.due("cut of port " + s, x.cut(3 * c + s), Nets.NONE);
            }
        }
        Check.due("facing()", x.facing(), 0);
    }

    public static void main(String[] args) {
        for (int kind = 0; kind < 3; kind++) {
            numbersAndFull(kind);
        }
        portsAreOpen();
        Check.end();
    }
}
