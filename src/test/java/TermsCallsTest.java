import java.util.ArrayList;
import java.util.List;

/** Terms: no call throws, a refused call changes nothing; and how long an object is good for. */
public final class TermsCallsTest {
    private static final int MANY_CALLS = 300;

    private static final int[] NUMBERS = numbers();

    private static final int[][] KINDS = {
        {}, {0}, {2}, {0, 1, 2}, {2, 2, 2, 2, 2, 2, 2, 2, 2, 2}, {0, 1, 0, 1, 0, 1, 0, 1, 0, 2},
        {0, 1}, {0, 1, 0, 1, 2, 2}, Nets.KINDS_120, Nets.KINDS_121};

    private static final int[][] WIRES = {
        {}, {}, {0, 33}, {0, 3, 1, 2, 30, 6}, {0, 27, 3, 24, 30, 31}, {},
        {0, 3, 1, 4, 2, 5}, {0, 3, 1, 5, 2, 30, 12, 15, 31, 9, 32, 33}, Nets.WIRES_120, Nets.WIRES_121};

    private static final boolean[] TIRED = {false, false, false, false, false, false, true, true, false, true};

    private static int[] numbers() {
        List<Integer> all = new ArrayList<>();
        for (int n = -2; n < 37; n++) {
            all.add(n);
        }
        for (int n : Nets.OUT_OF_RANGE) {
            all.add(n);
        }
        all.add(4094);
        all.add(4095);
        return all.stream().mapToInt(Integer::intValue).toArray();
    }

    private static boolean isPort(int[] kinds, int p) {
        if (p >= 30 && p <= 33) {
            return true;
        }
        if (p < 0 || p >= 30 || p / 3 >= kinds.length) {
            return false;
        }
        return kinds[p / 3] != 2 || p % 3 == 0;
    }

    private static boolean isOpen(int[] wires, int p) {
        for (int wired : wires) {
            if (wired == p) {
                return false;
            }
        }
        return true;
    }

    private static void refusedCells(int i) {
        CellNets x = Nets.of(KINDS[i], WIRES[i]);
        for (int kind : NUMBERS) {
            if (kind < 0 || kind > 2) {
                Check.due("cell(" + kind + ")", x.cell(kind), Nets.BAD_ARG);
            } else if (KINDS[i].length == 10) {
                Check.due("cell(" + kind + ")", x.cell(kind), Nets.FULL);
            }
        }
        Nets.unchanged("refused cells", x, KINDS[i], WIRES[i]);
    }

    private static void refusedJoins(int i, int p) {
        CellNets x = Nets.of(KINDS[i], WIRES[i]);
        for (int q : NUMBERS) {
            if (p == q || !isPort(KINDS[i], p) || !isPort(KINDS[i], q)) {
                Check.due("join(" + p + ", " + q + ")", x.join(p, q), Nets.BAD_ARG);
            } else if (!isOpen(WIRES[i], p) || !isOpen(WIRES[i], q)) {
                Check.due("join(" + p + ", " + q + ")", x.join(p, q), Nets.NONE);
            }
        }
        Nets.unchanged("refused joins", x, KINDS[i], WIRES[i]);
    }

    private static void refusedCuts(int i) {
        CellNets x = Nets.of(KINDS[i], WIRES[i]);
        for (int p : NUMBERS) {
            if (!isPort(KINDS[i], p)) {
                Check.due("cut(" + p + ")", x.cut(p), Nets.BAD_ARG);
            } else if (isOpen(WIRES[i], p)) {
                Check.due("cut(" + p + ")", x.cut(p), Nets.NONE);
            }
        }
        Nets.unchanged("refused cuts", x, KINDS[i], WIRES[i]);
    }

    private static void refusedQuestions(int i) {
        CellNets x = Nets.of(KINDS[i], WIRES[i]);
        for (int n : NUMBERS) {
            if (n < 0 || n > 2) {
                Check.due("left(" + n + ")", x.left(n), Nets.BAD_ARG);
            }
            if (n < 0 || n > 3) {
                Check.due("reach(" + n + ")", x.reach(n), Nets.BAD_ARG);
                Check.due("walk(" + n + ", 0)", x.walk(n, 0), Nets.BAD_ARG);
            }
            if (n < 0 || n > 4095) {
                Check.due("walk(0, " + n + ")", x.walk(0, n), Nets.BAD_ARG);
            }
        }
        Nets.unchanged("questions refused with BAD_ARG", x, KINDS[i], WIRES[i]);
    }

    private static void tiredQuestions(int i) {
        CellNets x = Nets.of(KINDS[i], WIRES[i]);
        Check.due("steps()", x.steps(), Nets.TIRED);
        Check.due("left(1)", x.left(1), Nets.TIRED);
        Check.due("loops()", x.loops(), Nets.TIRED);
        Check.due("walk(1, 2)", x.walk(1, 2), Nets.TIRED);
        Check.due("reach(2)", x.reach(2), Nets.TIRED);
        Check.due("open()", x.open(), Nets.TIRED);
        Nets.unchanged("TIRED", x, KINDS[i], WIRES[i]);
    }

    private static void refusedChangeNothing() {
        for (int i = 0; i < KINDS.length; i++) {
            refusedCells(i);
            for (int p : NUMBERS) {
                refusedJoins(i, p);
            }
            refusedCuts(i);
            refusedQuestions(i);
            if (TIRED[i]) {
                tiredQuestions(i);
            }
        }
    }

    private static void call(CellNets x, int which, int n, int m) {
        switch (which) {
            case 0: x.cell(n); break;
            case 1: x.join(n, m); break;
            case 2: x.cut(n); break;
            case 3: x.cells(); break;
            case 4: x.facing(); break;
            case 5: x.steps(); break;
            case 6: x.left(n); break;
            case 7: x.loops(); break;
            case 8: x.walk(n, m); break;
            case 9: x.reach(n); break;
            case 10: x.open(); break;
            default: x.clear(); break;
        }
    }

    private static int throwsIfCalled(CellNets x, int which, int n, int m) {
        try {
            call(x, which, n, m);
            return 0;
        } catch (RuntimeException | Error thrown) {
            System.out.println("call " + which + " of " + n + ", " + m + " threw " + thrown);
            return 1;
        }
    }

    private static void noneThrows() {
        for (int i = 0; i < KINDS.length; i++) {
            for (int n : NUMBERS) {
                CellNets x = Nets.of(KINDS[i], WIRES[i]);
                int thrown = 0;
                for (int m : NUMBERS) {
                    thrown += throwsIfCalled(x, 8, n, m);
                    thrown += throwsIfCalled(x, 1, n, m);
                }
                for (int which = 0; which <= 11; which++) {
                    thrown += throwsIfCalled(x, which, n, n);
                }
                Check.due("throws of calls with " + n, thrown, 0);
            }
        }
    }

    private static void noneThrowsAfterManyCalls() {
        // What is answered after the 512th call is free, but LANGUAGE.md lets no call throw ever.
        CellNets x = Nets.of(Nets.KINDS_121, Nets.WIRES_121);
        int thrown = 0;
        for (int round = 0; round < MANY_CALLS; round++) {
            for (int which = 0; which <= 10; which++) {
                thrown += throwsIfCalled(x, which, round % 34, (round + which) % 34);
            }
        }
        Check.due("throws of many calls", thrown, 0);
    }

    private static void runsToTheLastCall() {
        CellNets tired = new CellNets();
        int calls = 0;
        for (int kind = 0; kind < 2; kind++) {
            Check.due("cell(" + kind + ")", tired.cell(kind), kind);
            calls++;
        }
        for (int s = 0; s < 3; s++) {
            Check.due("join(" + s + ", " + (s + 3) + ")", tired.join(s, s + 3), 0);
            calls++;
        }
        while (calls < 510) {
            Check.due("steps()", tired.steps(), Nets.TIRED);
            calls++;
        }
        Check.due("cut(5)", tired.cut(5), 2);
        Check.due("cut(4), the 512th call", tired.cut(4), 1);
    }

    private static void changesToTheLastCall() {
        CellNets x = new CellNets();
        int calls = 0;
        while (calls + 12 <= 500) {
            for (int c = 0; c < 10; c++) {
                Check.due("cell(0)", x.cell(0), c);
            }
            Check.due("cell(0)", x.cell(0), Nets.FULL);
            x.clear();
            calls += 12;
        }
        Check.due("cell(0)", x.cell(0), 0);
        Check.due("cell(0)", x.cell(0), 1);
        Check.due("join(0, 3)", x.join(0, 3), 0);
        Check.due("join(1, 4)", x.join(1, 4), 0);
        Check.due("join(2, 30)", x.join(2, 30), 0);
        Check.due("join(5, 31)", x.join(5, 31), 0);
        Check.due("loops()", x.loops(), 1);
        calls += 7;
        while (calls < 512) {
            Check.due("walk(1, 9)", x.walk(1, 9), 10);
            calls++;
        }
    }

    public static void main(String[] args) {
        Check.sentence("A refused call answers the code named and changes nothing.");
        refusedChangeNothing();
        Check.sentence("No call ever throws.");
        noneThrows();
        noneThrowsAfterManyCalls();
        Check.sentence("An object is used for at most 512 calls after it has been made");
        runsToTheLastCall();
        changesToTheLastCall();
        Check.end();
    }
}
