/** Nets of cells joined by wires; what is left when no two heads are joined any more. */
public final class CellNets {
    public static final int BAD_ARG = -1;
    public static final int FULL = -2;
    public static final int NONE = -4;
    public static final int TIRED = -5;

    private static final int KINDS = 3;
    private static final int ERASER = 2;
    private static final int MAX_CELLS = 10;
    private static final int FIRST_END = 30;
    private static final int ENDS = 4;
    private static final int NET_PORTS = FIRST_END + ENDS;
    private static final int MAX_STEPS = 120;
    private static final int MAX_TURNS = 4095;

    // The ends' port numbers are those that cells 10 and 11 would have, so
    // the cells of a run leave these two places free: 3 c + s then holds for
    // every cell, and a head is told from an end by its place being EMPTY.
    private static final int FIRST_NEW_CELL = 12;
    // A step puts in at most four cells, and no place is used twice in a run.
    private static final int RUN_CELLS = FIRST_NEW_CELL + 4 * MAX_STEPS;
    private static final int RUN_PORTS = 3 * RUN_CELLS;

    private static final int OPEN = -1;
    private static final int EMPTY = -1;
    private static final int NO_CELL = -1;

    private static final int AT_OPEN = 9;
    private static final int AT_FIRST_END = 10;

    // The net as it was put together: a wire is held as the port at the other
    // end, at both of its ports.
    private final int[] kinds = new int[MAX_CELLS];
    private final int[] wires = new int[NET_PORTS];
    private int count;

    // The copy that a run is done on.
    private final int[] runKinds = new int[RUN_CELLS];
    private final int[] runWires = new int[RUN_PORTS];
    private int runEnd;
    private int runSteps;
    private int runLoops;

    private final boolean[] isReached = new boolean[RUN_CELLS];
    private final int[] reached = new int[RUN_CELLS];
    private int reachedCount;

    public CellNets() {
        takeAllAway();
    }

    public int cell(int kind) {
        if (!isKind(kind)) {
            return BAD_ARG;
        }
        if (count >= MAX_CELLS) {
            return FULL;
        }
        int number = count;
        kinds[number] = kind;
        count++;
        return number;
    }

    public int join(int p, int q) {
        if (!isPort(p) || !isPort(q) || p == q) {
            return BAD_ARG;
        }
        if (wires[p] != OPEN || wires[q] != OPEN) {
            return NONE;
        }
        wires[p] = q;
        wires[q] = p;
        return 0;
    }

    public int cut(int p) {
        if (!isPort(p)) {
            return BAD_ARG;
        }
        int other = wires[p];
        if (other == OPEN) {
            return NONE;
        }
        wires[p] = OPEN;
        wires[other] = OPEN;
        return other;
    }

    public void clear() {
        takeAllAway();
    }

    public int cells() {
        return count;
    }

    public int facing() {
        int pairs = 0;
        for (int c = 0; c < count; c++) {
            int other = wires[3 * c];
            // Counted at its lower cell alone, so that no pair counts twice.
            if (other > 3 * c && other < FIRST_END && other % 3 == 0) {
                pairs++;
            }
        }
        return pairs;
    }

    public int steps() {
        if (!runComesToRest()) {
            return TIRED;
        }
        return runSteps;
    }

    public int left(int kind) {
        if (!isKind(kind)) {
            return BAD_ARG;
        }
        if (!runComesToRest()) {
            return TIRED;
        }
        int found = 0;
        for (int c = 0; c < runEnd; c++) {
            if (runKinds[c] == kind) {
                found++;
            }
        }
        return found;
    }

    public int loops() {
        if (!runComesToRest()) {
            return TIRED;
        }
        return runLoops;
    }

    public int walk(int e, int turns) {
        if (!isEndIndex(e) || turns < 0 || turns > MAX_TURNS) {
            return BAD_ARG;
        }
        if (!runComesToRest()) {
            return TIRED;
        }
        int at = runWires[FIRST_END + e];
        for (int rest = turns; rest > 0 && isPairPort(at); rest = rest / 2) {
            int onward = portBehind(at, rest);
            at = runWires[onward];
        }
        return stopAnswer(at);
    }

    public int reach(int e) {
        if (!isEndIndex(e)) {
            return BAD_ARG;
        }
        if (!runComesToRest()) {
            return TIRED;
        }
        forgetReached();
        reachPort(runWires[FIRST_END + e]);
        for (int i = 0; i < RUN_CELLS && i < reachedCount; i++) {
            int c = reached[i];
            reachPort(runWires[3 * c]);
            reachPort(runWires[3 * c + 1]);
            reachPort(runWires[3 * c + 2]);
        }
        return reachedCount;
    }

    public int open() {
        if (!runComesToRest()) {
            return TIRED;
        }
        int found = 0;
        for (int c = 0; c < runEnd; c++) {
            int ports = portsOfKind(runKinds[c]);
            for (int s = 0; s < ports; s++) {
                if (runWires[3 * c + s] == OPEN) {
                    found++;
                }
            }
        }
        return found;
    }

    private void takeAllAway() {
        count = 0;
        for (int p = 0; p < NET_PORTS; p++) {
            wires[p] = OPEN;
        }
    }

    private static boolean isKind(int kind) {
        return kind >= 0 && kind < KINDS;
    }

    private static boolean isPair(int kind) {
        return kind == 0 || kind == 1;
    }

    private static int portsOfKind(int kind) {
        if (isPair(kind)) {
            return 3;
        }
        return kind == ERASER ? 1 : 0;
    }

    private static boolean isEnd(int p) {
        return p >= FIRST_END && p < FIRST_END + ENDS;
    }

    private static boolean isEndIndex(int e) {
        return e >= 0 && e < ENDS;
    }

    private boolean isPort(int p) {
        if (isEnd(p)) {
            return true;
        }
        if (p < 0 || p >= 3 * count) {
            return false;
        }
        return p % 3 < portsOfKind(kinds[p / 3]);
    }

    /** Runs a copy of the net; false if it would take more than MAX_STEPS. */
    private boolean runComesToRest() {
        copyNet();
        int done = 0;
        int c = facingCell();
        while (done < MAX_STEPS && c != NO_CELL) {
            takeStep(c);
            done++;
            c = facingCell();
        }
        runSteps = done;
        return c == NO_CELL;
    }

    private void copyNet() {
        for (int c = 0; c < RUN_CELLS; c++) {
            runKinds[c] = c < count ? kinds[c] : EMPTY;
        }
        for (int p = 0; p < RUN_PORTS; p++) {
            runWires[p] = p < NET_PORTS ? wires[p] : OPEN;
        }
        runEnd = FIRST_NEW_CELL;
        runLoops = 0;
    }

    /** A cell that faces another one, or NO_CELL if none does. */
    private int facingCell() {
        for (int c = 0; c < runEnd; c++) {
            if (runKinds[c] != EMPTY && isHead(runWires[3 * c])) {
                return c;
            }
        }
        return NO_CELL;
    }

    private boolean isHead(int p) {
        return p != OPEN && p % 3 == 0 && runKinds[p / 3] != EMPTY;
    }

    private void takeStep(int a) {
        int b = runWires[3 * a] / 3;
        int kindOfA = runKinds[a];
        int kindOfB = runKinds[b];
        takeOut(a);
        takeOut(b);
        if (kindOfA == kindOfB) {
            if (kindOfA != ERASER) {
                fuseWires(3 * a + 1, 3 * b + 1);
                fuseWires(3 * a + 2, 3 * b + 2);
            }
        } else if (kindOfA == ERASER) {
            erase(b);
        } else if (kindOfB == ERASER) {
            erase(a);
        } else if (kindOfA == 0) {
            copyEachOther(a, b);
        } else {
            copyEachOther(b, a);
        }
    }

    // The sides keep their wires until the step has handed them on.
    private void takeOut(int c) {
        runKinds[c] = EMPTY;
        runWires[3 * c] = OPEN;
    }

    private void fuseWires(int p, int q) {
        int beyondP = runWires[p];
        int beyondQ = runWires[q];
        runWires[p] = OPEN;
        runWires[q] = OPEN;
        if (beyondP == q) {
            runLoops++;
            return;
        }
        // An open port on one side makes the far port of the other open.
        if (beyondP != OPEN) {
            runWires[beyondP] = beyondQ;
        }
        if (beyondQ != OPEN) {
            runWires[beyondQ] = beyondP;
        }
    }

    private void erase(int pair) {
        int first = putIn(ERASER);
        int second = putIn(ERASER);
        moveWire(3 * pair + 1, 3 * first);
        moveWire(3 * pair + 2, 3 * second);
    }

    private void copyEachOther(int c, int d) {
        int d1 = putIn(1);
        int d2 = putIn(1);
        int c1 = putIn(0);
        int c2 = putIn(0);
        moveWire(3 * c + 1, 3 * d1);
        moveWire(3 * c + 2, 3 * d2);
        moveWire(3 * d + 1, 3 * c1);
        moveWire(3 * d + 2, 3 * c2);
        putWire(3 * d1 + 1, 3 * c1 + 1);
        putWire(3 * d1 + 2, 3 * c2 + 1);
        putWire(3 * d2 + 1, 3 * c1 + 2);
        putWire(3 * d2 + 2, 3 * c2 + 2);
    }

    private int putIn(int kind) {
        int number = runEnd;
        runKinds[number] = kind;
        runEnd++;
        return number;
    }

    // The far port may be a side that is taken out as well: it then holds the
    // new port until its own wire is moved.
    private void moveWire(int from, int to) {
        int beyond = runWires[from];
        runWires[from] = OPEN;
        if (beyond != OPEN) {
            putWire(to, beyond);
        }
    }

    private void putWire(int p, int q) {
        runWires[p] = q;
        runWires[q] = p;
    }

    private boolean isPairPort(int p) {
        return p != OPEN && isPair(runKinds[p / 3]);
    }

    private static int portBehind(int p, int turns) {
        int s = p % 3;
        int ahead = turns % 2 == 1 ? 1 : 2;
        return p - s + (s + ahead) % 3;
    }

    private int stopAnswer(int at) {
        if (at == OPEN) {
            return AT_OPEN;
        }
        if (isEnd(at)) {
            return AT_FIRST_END + at - FIRST_END;
        }
        return 3 * runKinds[at / 3] + at % 3;
    }

    private void forgetReached() {
        reachedCount = 0;
        for (int c = 0; c < RUN_CELLS; c++) {
            isReached[c] = false;
        }
    }

    private void reachPort(int p) {
        if (p == OPEN || isEnd(p)) {
            return;
        }
        int c = p / 3;
        if (!isReached[c]) {
            isReached[c] = true;
            reached[reachedCount] = c;
            reachedCount++;
        }
    }
}
