/** Promise 4: cut. */
public final class CutTest {
    private static void eitherEnd() {
        CellNets x = Nets.of(Nets.kinds(0, 2), 0, 3, 1, 33, 31, 30);
        Check.due("cut(3)", x.cut(3), 0);
        Check.due("cut(3) again", x.cut(3), Nets.NONE);
        Check.due("cut(0)", x.cut(0), Nets.NONE);
        Check.due("cut(31)", x.cut(31), 30);
        Check.due("cut(30)", x.cut(30), Nets.NONE);
        // The wire that was not cut is still there.
        Check.due("walk(3, 0)", x.walk(3, 0), 1);
        Check.due("cut(1)", x.cut(1), 33);
        Check.due("walk(3, 0)", x.walk(3, 0), 9);
        Check.due("open()", x.open(), 4);
        Check.due("cells()", x.cells(), 2);
        Check.due("join(0, 3)", x.join(0, 3), 0);
        Check.due("cut(0)", x.cut(0), 3);
    }

    private static void refused() {
        CellNets x = Nets.of(Nets.kinds(2, 1), 0, 30, 3, 4);
        String before = Nets.answers(x);
        for (int p : Nets.OUT_OF_RANGE) {
            Check.due("cut(" + p + ")", x.cut(p), Nets.BAD_ARG);
        }
        Check.due("cut(1)", x.cut(1), Nets.BAD_ARG);
        Check.due("cut(2)", x.cut(2), Nets.BAD_ARG);
        for (int p = 6; p < 30; p++) {
            Check.due("cut(" + p + ")", x.cut(p), Nets.BAD_ARG);
        }
        Check.due("cut(34)", x.cut(34), Nets.BAD_ARG);
        Check.due("cut(5)", x.cut(5), Nets.NONE);
        Check.due("cut(33)", x.cut(33), Nets.NONE);
        Check.due("a refused cut changes nothing", Nets.answers(x).equals(before) ? 1 : 0, 1);
    }

    public static void main(String[] args) {
        eitherEnd();
        refused();
        Check.end();
    }
}
