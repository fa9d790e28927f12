import java.lang.management.ManagementFactory;

/** All calls live in one room: calls make nothing, and a new object is small. */
public final class RoomTest {
    private static final com.sun.management.ThreadMXBean THREAD =
            (com.sun.management.ThreadMXBean) ManagementFactory.getThreadMXBean();
    // The densest graphs, in every mode; with the degrees of their targets.
    private static final String[] TEXTS = {
        "vertices 8;edge 0 1;edge 0 2;edge 0 3;edge 1 4;edge 1 5;edge 2 6;edge 2 7;edge 3 4;"
            + "edge 3 6;edge 4 7;edge 5 6;edge 5 7;edge 1 2;edge 3 7;edge 0 6;edge 4 5;"
            + "target 0 0 2;target 1 1 2;target 2 2 2;target 3 3 2;target 4 4 2;target 5 5;"
            + "target 6 6 2;target 7 7 2;target 5 5;",
        "degrees 4 4 4 4 4 4 4 4;",
        "vertices 8;edge 0 1 2;edge 2 3 2;edge 4 5 2;edge 6 7 2;edge 0 0;edge 1 1;edge 2 2;edge 3 3;"
            + "edge 4 4;edge 5 5;edge 6 6;edge 7 7;mode 1;",
    };
    private static int sink = 0;

    public static void main(String[] args) {
        for (String text : TEXTS) {
            SwitchGraphs warm = Texts.of(text);
            rounds(warm, 20);
            SwitchGraphs x = Texts.of(text);
            long before = THREAD.getCurrentThreadAllocatedBytes();
            rounds(x, 20);
            long made = THREAD.getCurrentThreadAllocatedBytes() - before;
            Check.is("bytes made by calls (" + made + "): " + text, made < 4096, true);
        }
        long before = THREAD.getCurrentThreadAllocatedBytes();
        sink += new SwitchGraphs().vertices();
        long made = THREAD.getCurrentThreadAllocatedBytes() - before;
        Check.is("bytes of an object (" + made + ")", made < 40000, true);
        Check.end();
    }

    private static void rounds(SwitchGraphs x, int many) {
        for (int k = 0; k < many; k++) {
            ask(x);
            edit(x);
        }
    }

    private static void ask(SwitchGraphs x) {
        sink += x.switches() + x.components() + x.bridges() + x.triangles() + x.difference()
                + x.defects() + x.loops() + x.write(false) + x.write(true) + x.sorted(0)
                + x.slack(1) + x.way(0, x.vertices() - 1) + x.reason(0, 1, 2, 3);
        if (x.switches() > 0) {
            sink += x.nearest() + x.switchAt(0, 3);
        }
        if (x.isAlike()) {
            sink += x.pathLength() + x.distance();
        }
        if (x.isPossible(1) && x.isPossible(2) && x.isConnected() && x.isSimple()) {
            sink++;
        }
    }

    private static void edit(SwitchGraphs x) {
        sink += x.simplify() + x.undo() + x.connect() + x.undo() + x.realise(0) + x.undo()
                + x.exchange() + x.undo() + x.copyToTarget() + x.undo() + x.setMode(1) + x.undo();
        if (x.isAlike()) {
            sink += x.follow(16) + x.undo();
        }
        sink += x.removeEdge(0, x.times(0, 0, false) > 0 ? 0 : 1) + x.addEdge(0, 0) + x.undo()
                + x.undo();
        x.feed(0x64656772, 0x65657320, 0x31203120, 0x20202020, 0x20202020);
        sink += x.load(13) + x.errorKind() + x.errorPosition();
    }
}
