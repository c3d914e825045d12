/** Promise 5: clear. */
public final class ClearTest {
    private static void asNew(CellNets x) {
        String fresh = Nets.answers(new CellNets());
        Check.due("after clear() it answers as a new one", Nets.answers(x).equals(fresh) ? 1 : 0, 1);
        for (int p = 0; p < 34; p++) {
            Check.due("cut(" + p + ")", x.cut(p), p < 30 ? Nets.BAD_ARG : Nets.NONE);
        }
    }

    private static void wiresDoNotComeBack() {
        CellNets x = Nets.of(Nets.kinds(0, 0, 1), 0, 3, 1, 4, 2, 30, 31, 32, 6, 7);
        x.clear();
        for (int c = 0; c < 10; c++) {
            Check.due("cell(1)", x.cell(1), c);
        }
        Check.due("facing()", x.facing(), 0);
        Check.due("open()", x.open(), 30);
        for (int p = 0; p < 34; p++) {
            Check.due("cut(" + p + ")", x.cut(p), Nets.NONE);
        }
    }

    public static void main(String[] args) {
        CellNets empty = new CellNets();
        empty.clear();
        asNew(empty);

        CellNets full = Nets.of(Nets.KINDS_120, Nets.WIRES_120);
        full.clear();
        asNew(full);

        CellNets tired = Nets.endless();
        Check.due("steps()", tired.steps(), Nets.TIRED);
        tired.clear();
        asNew(tired);

        wiresDoNotComeBack();
        Check.end();
    }
}
