import java.util.ArrayList;
import java.util.HashSet;
import java.util.List;
import java.util.Set;

/**
 * The document told a second time, in another way than CellNets does it: cells, ports and wires
 * are objects, and a run takes the facing cells in an order that a seed picks.
 */
final class NetModel {
    private static final class Port {
        final Cell cell;
        final int number;

        Port(Cell cell, int number) {
            this.cell = cell;
            this.number = number;
        }

        boolean isHead() {
            return cell != null && number == 0;
        }
    }

    private static final class Cell {
        final int kind;
        final Port[] ports;

        Cell(int kind) {
            this.kind = kind;
            this.ports = new Port[kind == 2 ? 1 : 3];
            for (int s = 0; s < ports.length; s++) {
                ports[s] = new Port(this, s);
            }
        }
    }

    private static final class Wire {
        Port a;
        Port b;

        Wire(Port a, Port b) {
            this.a = a;
            this.b = b;
        }

        Port beyond(Port p) {
            return p == a ? b : a;
        }
    }

    private final int maxSteps;
    private long seed;

    private List<Cell> cells = new ArrayList<>();
    private List<Wire> wires = new ArrayList<>();
    private final Port[] ends = new Port[4];

    private List<Cell> runCells;
    private List<Wire> runWires;
    private int runSteps;
    private int runLoops;

    NetModel(int maxSteps, long seed) {
        this.maxSteps = maxSteps;
        this.seed = seed;
        for (int e = 0; e < 4; e++) {
            ends[e] = new Port(null, e);
        }
    }

    static NetModel of(int maxSteps, int[] kinds, int... ports) {
        NetModel m = new NetModel(maxSteps, 1);
        for (int kind : kinds) {
            m.cell(kind);
        }
        for (int i = 0; i < ports.length; i += 2) {
            m.join(ports[i], ports[i + 1]);
        }
        return m;
    }

    int cell(int kind) {
        if (kind < 0 || kind > 2) {
            return -1;
        }
        if (cells.size() == 10) {
            return -2;
        }
        cells.add(new Cell(kind));
        return cells.size() - 1;
    }

    int join(int p, int q) {
        Port a = port(p);
        Port b = port(q);
        if (a == null || b == null || a == b) {
            return -1;
        }
        if (wireOf(wires, a) != null || wireOf(wires, b) != null) {
            return -4;
        }
        wires.add(new Wire(a, b));
        return 0;
    }

    int cut(int p) {
        Port a = port(p);
        if (a == null) {
            return -1;
        }
        Wire w = wireOf(wires, a);
        if (w == null) {
            return -4;
        }
        wires.remove(w);
        Port b = w.beyond(a);
        return b.cell == null ? 30 + b.number : 3 * cells.indexOf(b.cell) + b.number;
    }

    void clear() {
        cells = new ArrayList<>();
        wires = new ArrayList<>();
    }

    int cells() {
        return cells.size();
    }

    int facing() {
        return facingWires(wires).size();
    }

    int steps() {
        return run() ? runSteps : -5;
    }

    int left(int kind) {
        if (kind < 0 || kind > 2) {
            return -1;
        }
        if (!run()) {
            return -5;
        }
        return (int) runCells.stream().filter(c -> c.kind == kind).count();
    }

    int loops() {
        return run() ? runLoops : -5;
    }

    int walk(int e, int turns) {
        if (e < 0 || e > 3 || turns < 0 || turns > 4095) {
            return -1;
        }
        if (!run()) {
            return -5;
        }
        Port from = ends[e];
        int rest = turns;
        while (true) {
            Wire w = wireOf(runWires, from);
            if (w == null) {
                return 9;
            }
            Port to = w.beyond(from);
            if (to.cell == null) {
                return 10 + to.number;
            }
            if (rest == 0 || to.cell.kind == 2) {
                return 3 * to.cell.kind + to.number;
            }
            int first = to.number == 2 ? 0 : to.number + 1;
            int second = to.number == 0 ? 2 : to.number - 1;
            from = to.cell.ports[(rest & 1) != 0 ? first : second];
            rest >>= 1;
        }
    }

    int reach(int e) {
        if (e < 0 || e > 3) {
            return -1;
        }
        if (!run()) {
            return -5;
        }
        Set<Port> met = new HashSet<>();
        Set<Cell> found = new HashSet<>();
        met.add(ends[e]);
        boolean grew = true;
        while (grew) {
            grew = false;
            for (Wire w : runWires) {
                if (met.contains(w.a) != met.contains(w.b)) {
                    Port fresh = met.contains(w.a) ? w.b : w.a;
                    met.add(fresh);
                    if (fresh.cell != null) {
                        found.add(fresh.cell);
                        met.addAll(List.of(fresh.cell.ports));
                    }
                    grew = true;
                }
            }
        }
        return found.size();
    }

    int open() {
        if (!run()) {
            return -5;
        }
        int ports = 0;
        for (Cell c : runCells) {
            ports += c.ports.length;
        }
        for (Wire w : runWires) {
            ports -= w.a.cell != null ? 1 : 0;
            ports -= w.b.cell != null ? 1 : 0;
        }
        return ports;
    }

    private Port port(int p) {
        if (p >= 30 && p <= 33) {
            return ends[p - 30];
        }
        if (p < 0 || p / 3 >= cells.size()) {
            return null;
        }
        Cell c = cells.get(p / 3);
        return p % 3 < c.ports.length ? c.ports[p % 3] : null;
    }

    private static Wire wireOf(List<Wire> all, Port p) {
        for (Wire w : all) {
            if (w.a == p || w.b == p) {
                return w;
            }
        }
        return null;
    }

    private static List<Wire> facingWires(List<Wire> all) {
        List<Wire> found = new ArrayList<>();
        for (Wire w : all) {
            if (w.a.isHead() && w.b.isHead()) {
                found.add(w);
            }
        }
        return found;
    }

    private int pick(int bound) {
        seed = seed * 6364136223846793005L + 1442695040888963407L;
        return (int) ((seed >>> 33) % bound);
    }

    private boolean run() {
        runCells = new ArrayList<>(cells);
        runWires = new ArrayList<>();
        for (Wire w : wires) {
            runWires.add(new Wire(w.a, w.b));
        }
        runSteps = 0;
        runLoops = 0;
        List<Wire> ready = facingWires(runWires);
        while (!ready.isEmpty()) {
            if (runSteps == maxSteps) {
                return false;
            }
            step(ready.get(pick(ready.size())));
            runSteps++;
            ready = facingWires(runWires);
        }
        return true;
    }

    private void step(Wire between) {
        runWires.remove(between);
        Cell c = between.a.cell;
        Cell d = between.b.cell;
        if (c.kind > d.kind) {
            Cell swap = c;
            c = d;
            d = swap;
        }
        runCells.remove(c);
        runCells.remove(d);
        if (c.kind == d.kind) {
            for (int s = 1; s < c.ports.length; s++) {
                makeOne(c.ports[s], d.ports[s]);
            }
        } else if (d.kind == 2) {
            give(put(2).ports[0], c.ports[1]);
            give(put(2).ports[0], c.ports[2]);
        } else {
            Cell d1 = put(1);
            Cell d2 = put(1);
            Cell c1 = put(0);
            Cell c2 = put(0);
            give(d1.ports[0], c.ports[1]);
            give(d2.ports[0], c.ports[2]);
            give(c1.ports[0], d.ports[1]);
            give(c2.ports[0], d.ports[2]);
            runWires.add(new Wire(d1.ports[1], c1.ports[1]));
            runWires.add(new Wire(d1.ports[2], c2.ports[1]));
            runWires.add(new Wire(d2.ports[1], c1.ports[2]));
            runWires.add(new Wire(d2.ports[2], c2.ports[2]));
        }
    }

    private Cell put(int kind) {
        Cell c = new Cell(kind);
        runCells.add(c);
        return c;
    }

    private void give(Port x, Port y) {
        Wire w = wireOf(runWires, y);
        if (w == null) {
            return;
        }
        if (w.a == y) {
            w.a = x;
        } else {
            w.b = x;
        }
    }

    private void makeOne(Port p, Port q) {
        Wire v = wireOf(runWires, p);
        Wire w = wireOf(runWires, q);
        runWires.remove(v);
        runWires.remove(w);
        if (v != null && v == w) {
            runLoops++;
        } else if (v != null && w != null) {
            runWires.add(new Wire(v.beyond(p), w.beyond(q)));
        }
    }
}
