/** Promise 3: join. */
public final class JoinTest {
    private static void noPort(CellNets x, int p) {
        Check.due("join(" + p + ", 33)", x.join(p, 33), Nets.BAD_ARG);
        Check.due("join(33, " + p + ")", x.join(33, p), Nets.BAD_ARG);
        Check.due("join(" + p + ", " + p + ")", x.join(p, p), Nets.BAD_ARG);
    }

    private static void whatIsNoPort() {
        CellNets x = Nets.of(Nets.kinds(0, 2, 1));
        for (int p : Nets.OUT_OF_RANGE) {
            noPort(x, p);
        }
        noPort(x, 4);
        noPort(x, 5);
        for (int p = 9; p < 30; p++) {
            noPort(x, p);
        }
        for (int p = 34; p < 50; p++) {
            noPort(x, p);
        }
        Check.due("cut(33)", x.cut(33), Nets.NONE);
    }

    private static void everyPortCanBeJoined() {
        for (int p = 0; p < 34; p++) {
            // A new object for each p, as one is good for 512 calls only.
            CellNets x = Nets.of(Nets.kinds(0, 1, 0, 1, 0, 1, 0, 1, 0, 1));
            for (int q = 0; q < 34; q++) {
                Check.due("join(" + p + ", " + q + ")", x.join(p, q), p == q ? Nets.BAD_ARG : 0);
                Check.due("cut(" + p + ")", x.cut(p), p == q ? Nets.NONE : q);
            }
        }
    }

    private static void wiredPorts() {
        CellNets x = Nets.of(Nets.kinds(0, 1), 0, 30, 1, 2);
        String before = Nets.answers(x);
        Check.due("join(0, 3)", x.join(0, 3), Nets.NONE);
        Check.due("join(3, 0)", x.join(3, 0), Nets.NONE);
        Check.due("join(0, 30)", x.join(0, 30), Nets.NONE);
        Check.due("join(30, 0)", x.join(30, 0), Nets.NONE);
        Check.due("join(0, 1)", x.join(0, 1), Nets.NONE);
        Check.due("join(31, 2)", x.join(31, 2), Nets.NONE);
        // No port, or the same one, is told before a wire is.
        Check.due("join(0, 0)", x.join(0, 0), Nets.BAD_ARG);
        Check.due("join(30, 30)", x.join(30, 30), Nets.BAD_ARG);
        Check.due("join(0, 34)", x.join(0, 34), Nets.BAD_ARG);
        Check.due("join(-1, 30)", x.join(-1, 30), Nets.BAD_ARG);
        Check.due("join(6, 0)", x.join(6, 0), Nets.BAD_ARG);
        Check.due("a refused join changes nothing", Nets.answers(x).equals(before) ? 1 : 0, 1);
        Check.due("cut(3)", x.cut(3), Nets.NONE);
        Check.due("cut(31)", x.cut(31), Nets.NONE);
        Check.due("cut(0)", x.cut(0), 30);
        Check.due("cut(1)", x.cut(1), 2);
    }

    public static void main(String[] args) {
        whatIsNoPort();
        everyPortCanBeJoined();
        wiredPorts();
        Check.end();
    }
}
