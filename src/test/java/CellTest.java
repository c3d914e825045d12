/** Promise 2: cell. */
public final class CellTest {
    private static final int[] PORTS = {3, 3, 1};

    private static void ofThisKind() {
        for (int kind = 0; kind < 3; kind++) {
            CellNets x = new CellNets();
            Check.due("cell(" + kind + ")", x.cell(kind), 0);
            for (int other = 0; other < 3; other++) {
                Check.due("left(" + other + ")", x.left(other), other == kind ? 1 : 0);
            }
            Check.due("join(30, 0)", x.join(30, 0), 0);
            Check.due("walk(0, 0)", x.walk(0, 0), 3 * kind);
        }
    }

    private static void withOpenPorts() {
        CellNets x = new CellNets();
        for (int kind = 0; kind < 3; kind++) {
            int before = x.open();
            int c = x.cell(kind);
            Check.due("open() after cell(" + kind + ")", x.open(), before + PORTS[kind]);
            for (int s = 0; s < 3; s++) {
                Check.due("cut of port " + s, x.cut(3 * c + s), s < PORTS[kind] ? Nets.NONE : Nets.BAD_ARG);
            }
        }
        Check.due("facing()", x.facing(), 0);
    }

    private static void openPortsWhereWiresWere() {
        CellNets x = Nets.of(Nets.kinds(1, 1), 0, 3, 1, 4, 2, 30);
        x.clear();
        Check.due("cell(1)", x.cell(1), 0);
        Check.due("cell(1)", x.cell(1), 1);
        Check.due("open()", x.open(), 6);
        Check.due("facing()", x.facing(), 0);
    }

    private static void wrongKinds(CellNets x) {
        Check.due("cell(-1)", x.cell(-1), Nets.BAD_ARG);
        Check.due("cell(3)", x.cell(3), Nets.BAD_ARG);
        for (int kind : Nets.OUT_OF_RANGE) {
            Check.due("cell(" + kind + ")", x.cell(kind), Nets.BAD_ARG);
        }
        for (int kind = 4; kind < 35; kind++) {
            Check.due("cell(" + kind + ")", x.cell(kind), Nets.BAD_ARG);
        }
    }

    private static CellNets full(int kind) {
        CellNets x = new CellNets();
        for (int c = 0; c < 10; c++) {
            Check.due("cell(" + kind + ")", x.cell(kind), c);
        }
        return x;
    }

    private static void tenAreRoomFor() {
        for (int kind = 0; kind < 3; kind++) {
            CellNets x = full(kind);
            for (int refused = 0; refused < 3; refused++) {
                Check.due("cell(" + refused + ") of ten", x.cell(refused), Nets.FULL);
                Check.due("cells() of ten", x.cells(), 10);
            }
            Nets.unchanged("FULL", x, Nets.kinds(kind, kind, kind, kind, kind, kind, kind, kind, kind, kind));
        }
    }

    private static void cellsOfRunsTakeNoRoom() {
        // The run leaves none of eight cells, or more than ten of nine: there is room up to ten still.
        CellNets none = Nets.of(Nets.kinds(2, 2, 2, 2, 2, 2, 0, 0), 0, 3, 6, 9, 12, 15, 18, 21);
        Check.due("left(2)", none.left(2), 0);
        Check.due("cell(2)", none.cell(2), 8);
        Check.due("cell(2)", none.cell(2), 9);
        Check.due("cell(2)", none.cell(2), Nets.FULL);
        CellNets many = Nets.of(Nets.kinds(0, 1, 0, 1, 0, 1, 0, 1, 0), 0, 3, 6, 9, 12, 15, 18, 21);
        Check.due("left(0)", many.left(0), 9);
        Check.due("left(1)", many.left(1), 8);
        Check.due("cell(1)", many.cell(1), 9);
        Check.due("cell(1)", many.cell(1), Nets.FULL);
    }

    private static void itsNumber() {
        CellNets x = new CellNets();
        for (int c = 0; c < 10; c++) {
            Check.due("cell(4)", x.cell(4), Nets.BAD_ARG);
            Check.due("cell(" + c % 3 + ")", x.cell(c % 3), c);
        }
        x.clear();
        Check.due("cell(2) after clear()", x.cell(2), 0);
        Check.due("cell(0) after clear()", x.cell(0), 1);
        Check.due("join(0, 3)", x.join(0, 3), 0);
        Check.due("cut(0)", x.cut(0), 3);
        Check.due("cell(1) after cut", x.cell(1), 2);
    }

    public static void main(String[] args) {
        Check.sentence("Puts a cell of this kind in");
        ofThisKind();
        Check.sentence("with open ports");
        withOpenPorts();
        openPortsWhereWiresWere();
        Check.sentence("kind not 0 to 2 answers BAD_ARG");
        wrongKinds(new CellNets());
        wrongKinds(Nets.of(Nets.kinds(0, 1, 2), 0, 3));
        Check.sentence("FULL: There are 10 cells.");
        tenAreRoomFor();
        cellsOfRunsTakeNoRoom();
        Check.sentence("Tested in this order: kind not 0 to 2 answers BAD_ARG; FULL.");
        wrongKinds(full(0));
        wrongKinds(full(2));
        Check.sentence("Otherwise its number.");
        itsNumber();
        Check.end();
    }
}
