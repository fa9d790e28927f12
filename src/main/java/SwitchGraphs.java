import java.util.NoSuchElementException;

/**
 * Multigraphs with told degrees and the switches between them: two edges are replaced by two
 * others, so that all degrees stay.
 *
 * <p>Every row that a call needs is made with the object and used again, so that calls make no
 * objects but the exceptions that they throw.
 */
public final class SwitchGraphs {
    public static final int NONE = -1;
    public static final int FULL = -2;
    public static final int BAD_TEXT = -3;

    private static final int MAX_VERTICES = 8;
    private static final int MAX_EDGES = 16;
    private static final int MAX_MODE = 2;
    private static final int WITH_LOOPS = 0;
    private static final int WITHOUT_LOOPS = 1;
    private static final int SIMPLE = 2;

    private final Reader reader;
    private final Graph graph;
    private final Graph target;
    private final Graph trial;
    private final Graph spare;
    private final Parts parts;
    private final Sequence sequence;
    private final SwitchList list;
    private final Trail trail;
    private final History history;
    private final Output output;
    private int mode;

    public SwitchGraphs() {
        reader = new Reader();
        graph = new Graph();
        target = new Graph();
        trial = new Graph();
        spare = new Graph();
        parts = new Parts();
        sequence = new Sequence();
        list = new SwitchList();
        trail = new Trail();
        history = new History();
        output = new Output();
        mode = WITH_LOOPS;
    }

    // ---- text

    public int feed(int a, int b, int c, int d, int e) {
        if (!reader.hasRoom()) {
            return FULL;
        }
        reader.append(a);
        reader.append(b);
        reader.append(c);
        reader.append(d);
        reader.append(e);
        return reader.fedBytes();
    }

    public int load(int length) throws IllegalArgumentException {
        if (length < 0 || length > reader.fedBytes()) {
            throw new IllegalArgumentException("the buffer has no such number of bytes");
        }
        if (!reader.readText(length)) {
            return BAD_TEXT;
        }
        graph.become(reader.readGraph());
        target.become(reader.readTarget());
        mode = reader.readMode();
        history.forget();
        return graph.edgeCount();
    }

    public int errorKind() {
        return reader.kindOfError();
    }

    public int errorPosition() {
        return reader.placeOfError();
    }

    // ---- the graphs

    public int vertices() {
        return graph.vertexCount();
    }

    public int mode() {
        return mode;
    }

    public int edges(boolean target) {
        return choose(target).edgeCount();
    }

    public int times(int u, int v, boolean target) throws IndexOutOfBoundsException {
        checkVertex(u);
        checkVertex(v);
        return choose(target).between(u, v);
    }

    public int degree(int vertex, boolean target) throws IndexOutOfBoundsException {
        checkVertex(vertex);
        return choose(target).degreeOf(vertex);
    }

    public int loops() {
        return graph.loopCount();
    }

    public int defects() {
        return graph.defectCount();
    }

    public boolean isSimple() {
        return graph.defectCount() == 0;
    }

    public int neighbours(int vertex) throws IndexOutOfBoundsException {
        checkVertex(vertex);
        return graph.neighbourCount(vertex);
    }

    public int triangles() {
        return graph.triangleCount();
    }

    // ---- components

    public int components() {
        parts.find(graph);
        return parts.count();
    }

    public int component(int vertex) throws IndexOutOfBoundsException {
        checkVertex(vertex);
        parts.find(graph);
        return parts.numberOf(vertex);
    }

    public boolean isConnected() {
        return partsWithEdges(graph) <= 1;
    }

    public boolean isBridge(int u, int v) throws IndexOutOfBoundsException, NoSuchElementException {
        checkVertex(u);
        checkVertex(v);
        checkEdge(u, v);
        return separates(u, v);
    }

    public int bridges() {
        int found = 0;
        for (int u = 0; u < graph.vertexCount(); u++) {
            for (int v = u + 1; v < graph.vertexCount(); v++) {
                // Of several edges between two vertices none is a bridge.
                if (graph.between(u, v) == 1 && separates(u, v)) {
                    found++;
                }
            }
        }
        return found;
    }

    public int way(int from, int to) throws IndexOutOfBoundsException {
        checkVertex(from);
        checkVertex(to);
        return parts.stepsBetween(graph, from, to);
    }

    // ---- sequences

    public int sorted(int k) throws IndexOutOfBoundsException {
        checkVertex(k);
        sequence.take(graph);
        return sequence.greatest(k);
    }

    public int slack(int k) throws IndexOutOfBoundsException {
        if (k < 1 || k > graph.vertexCount()) {
            throw new IndexOutOfBoundsException("there is no such slack");
        }
        sequence.take(graph);
        return sequence.slackOf(k);
    }

    public boolean isPossible(int mode) throws IllegalArgumentException {
        checkMode(mode);
        sequence.take(graph);
        return sequence.allows(mode);
    }

    public double meanDegree() {
        int count = graph.vertexCount();
        return count > 0 ? (double) (2 * graph.edgeCount()) / (double) count : 0.0;
    }

    // ---- switches

    public int reason(int a, int b, int c, int d) throws IndexOutOfBoundsException {
        checkVertices(a, b, c, d);
        return graph.reasonAgainst(mode, a, b, c, d);
    }

    public int switches() {
        list.fill(graph, mode);
        return list.length();
    }

    public int switchAt(int k, int what) throws IndexOutOfBoundsException, IllegalArgumentException {
        list.fill(graph, mode);
        if (k < 0 || k >= list.length()) {
            throw new IndexOutOfBoundsException("there is no such switch");
        }
        checkWhat(what);
        return Code.vertexOf(list.codeAt(k), what);
    }

    public int componentsBehind(int a, int b, int c, int d)
            throws IndexOutOfBoundsException, IllegalStateException {
        checkVertices(a, b, c, d);
        checkPossible(a, b, c, d);
        trial.become(graph);
        trial.exchangeEdges(Code.of(a, b, c, d));
        parts.find(trial);
        return parts.count();
    }

    public int nearest() throws NoSuchElementException {
        list.fill(graph, mode);
        if (list.length() == 0) {
            throw new NoSuchElementException("no switch is possible");
        }
        trial.become(graph);
        int best = 0;
        int bestDifference = MAX_EDGES + 1;
        for (int k = 0; k < list.length(); k++) {
            trial.exchangeEdges(list.codeAt(k));
            int behind = trial.surplusOver(target);
            trial.exchangeEdges(Code.backOf(list.codeAt(k)));
            if (behind < bestDifference) {
                bestDifference = behind;
                best = k;
            }
        }
        return best;
    }

    // ---- paths

    public boolean isAlike() {
        return graph.hasDegreesOf(target);
    }

    public int difference() {
        return graph.surplusOver(target);
    }

    public int pathLength() throws IllegalStateException {
        checkAlike();
        trail.find(graph, target);
        return trail.length();
    }

    public int path(int k, int what)
            throws IllegalStateException, IndexOutOfBoundsException, IllegalArgumentException {
        checkAlike();
        trail.find(graph, target);
        if (k < 0 || k >= trail.length()) {
            throw new IndexOutOfBoundsException("the path has no such switch");
        }
        checkWhat(what);
        return Code.vertexOf(trail.codeAt(k), what);
    }

    public int distance() throws IllegalStateException {
        checkAlike();
        int apart = graph.surplusOver(target);
        if (apart == 0) {
            return 0;
        }
        // A switch changes two edges, and any two edges that differ can be switched into the two
        // others on the same four ends: so graphs of a difference of 2 are those one switch apart.
        if (apart == 2) {
            return 1;
        }
        return apart <= 4 && oneSwitchLeadsBeside() ? 2 : 3;
    }

    // ---- edits

    public int addEdge(int u, int v) throws IndexOutOfBoundsException, IllegalStateException {
        checkVertex(u);
        checkVertex(v);
        if (graph.edgeCount() >= MAX_EDGES) {
            throw new IllegalStateException("the graph has 16 edges");
        }
        remember();
        graph.put(u, v, 1);
        return graph.between(u, v);
    }

    public int removeEdge(int u, int v) throws IndexOutOfBoundsException, NoSuchElementException {
        checkVertex(u);
        checkVertex(v);
        checkEdge(u, v);
        remember();
        graph.put(u, v, -1);
        return graph.between(u, v);
    }

    public int switchEdges(int a, int b, int c, int d)
            throws IndexOutOfBoundsException, IllegalStateException {
        checkVertices(a, b, c, d);
        checkPossible(a, b, c, d);
        remember();
        graph.exchangeEdges(Code.of(a, b, c, d));
        return graph.defectCount();
    }

    public int realise(int mode) throws IllegalArgumentException, IllegalStateException {
        checkMode(mode);
        sequence.take(graph);
        if (!sequence.allows(mode)) {
            throw new IllegalStateException("the degrees have no realisation in this mode");
        }
        remember();
        sequence.build(graph, mode);
        return graph.defectCount();
    }

    public int follow(int many) throws IllegalArgumentException, IllegalStateException {
        if (many < 0 || many > MAX_EDGES) {
            throw new IllegalArgumentException("the number of switches is 0 to 16");
        }
        checkAlike();
        remember();
        trail.find(graph, target);
        for (int k = 0; k < many && k < trail.length(); k++) {
            graph.exchangeEdges(trail.codeAt(k));
        }
        return graph.surplusOver(target);
    }

    public int connect() {
        remember();
        // Each round leaves fewer components, so there are fewer rounds than vertices.
        for (int round = 0; round < MAX_VERTICES; round++) {
            int code = firstConnecting();
            if (code == NONE) {
                break;
            }
            graph.exchangeEdges(code);
        }
        return partsWithEdges(graph);
    }

    public int simplify() {
        remember();
        // Each round leaves fewer defects, so there are at most as many rounds as edges.
        for (int round = 0; round < MAX_EDGES; round++) {
            int code = mostSimplifying();
            if (code == NONE) {
                break;
            }
            graph.exchangeEdges(code);
        }
        return graph.defectCount();
    }

    public int exchange() {
        remember();
        spare.become(graph);
        graph.become(target);
        target.become(spare);
        return graph.surplusOver(target);
    }

    public int copyToTarget() {
        int before = graph.surplusOver(target);
        remember();
        target.become(graph);
        return before;
    }

    public int setMode(int mode) throws IllegalArgumentException {
        checkMode(mode);
        remember();
        int previous = this.mode;
        this.mode = mode;
        return previous;
    }

    public int undo() {
        if (history.length() == 0) {
            return NONE;
        }
        history.stepBack();
        graph.become(history.lastGraph());
        target.become(history.lastTarget());
        mode = history.lastMode();
        return history.length();
    }

    // ---- output

    public int write(boolean target) {
        output.print(choose(target));
        return output.length();
    }

    public char written(int k) throws IndexOutOfBoundsException {
        if (k < 0 || k >= output.length()) {
            throw new IndexOutOfBoundsException("the output has no such character");
        }
        return output.signAt(k);
    }

    // ---- checks

    private void checkVertex(int vertex) {
        if (vertex < 0 || vertex >= graph.vertexCount()) {
            throw new IndexOutOfBoundsException("there is no such vertex");
        }
    }

    private void checkVertices(int a, int b, int c, int d) {
        checkVertex(a);
        checkVertex(b);
        checkVertex(c);
        checkVertex(d);
    }

    private void checkEdge(int u, int v) {
        if (graph.between(u, v) == 0) {
            throw new NoSuchElementException("there is no such edge");
        }
    }

    private void checkMode(int mode) {
        if (mode < 0 || mode > MAX_MODE) {
            throw new IllegalArgumentException("the modes are 0 to 2");
        }
    }

    private void checkWhat(int what) {
        if (what < 0 || what > 3) {
            throw new IllegalArgumentException("the vertices of a switch are 0 to 3");
        }
    }

    private void checkPossible(int a, int b, int c, int d) {
        if (graph.reasonAgainst(mode, a, b, c, d) != 0) {
            throw new IllegalStateException("the switch is not possible");
        }
    }

    private void checkAlike() {
        if (!graph.hasDegreesOf(target)) {
            throw new IllegalStateException("the graph and the target have other degrees");
        }
    }

    // ---- parts of the methods above

    private Graph choose(boolean wantsTarget) {
        return wantsTarget ? target : graph;
    }

    private void remember() {
        history.remember(graph, target, mode);
    }

    private int partsWithEdges(Graph of) {
        parts.find(of);
        return parts.countWithEdges(of);
    }

    /** Whether the ends of an edge that is there are in different components without it. */
    private boolean separates(int u, int v) {
        trial.become(graph);
        trial.put(u, v, -1);
        parts.find(trial);
        return !parts.areTogether(u, v);
    }

    /** Whether a switch leads from the graph to one that is one switch away from the target. */
    private boolean oneSwitchLeadsBeside() {
        list.fill(graph, WITH_LOOPS);
        trial.become(graph);
        for (int k = 0; k < list.length(); k++) {
            trial.exchangeEdges(list.codeAt(k));
            int behind = trial.surplusOver(target);
            trial.exchangeEdges(Code.backOf(list.codeAt(k)));
            if (behind == 2) {
                return true;
            }
        }
        return false;
    }

    /** The first switch behind which fewer components have edges, or NONE. */
    private int firstConnecting() {
        int before = partsWithEdges(graph);
        list.fill(graph, mode);
        trial.become(graph);
        for (int k = 0; k < list.length(); k++) {
            trial.exchangeEdges(list.codeAt(k));
            int behind = partsWithEdges(trial);
            trial.exchangeEdges(Code.backOf(list.codeAt(k)));
            if (behind < before) {
                return list.codeAt(k);
            }
        }
        return NONE;
    }

    /** The first switch behind which there are fewest defects, or NONE if these are not fewer. */
    private int mostSimplifying() {
        int best = NONE;
        int fewest = graph.defectCount();
        list.fill(graph, WITH_LOOPS);
        trial.become(graph);
        for (int k = 0; k < list.length(); k++) {
            trial.exchangeEdges(list.codeAt(k));
            int behind = trial.defectCount();
            trial.exchangeEdges(Code.backOf(list.codeAt(k)));
            if (behind < fewest) {
                fewest = behind;
                best = list.codeAt(k);
            }
        }
        return best;
    }

    // ---- the classes inside

    /**
     * A switch in one number, with three bits for each of a, b, c and d, so that the order of the
     * numbers is the order of a, then b, c and d.
     */
    private static final class Code {
        private static final int BITS = 3;
        private static final int MASK = 7;

        private Code() {
        }

        static int of(int a, int b, int c, int d) {
            return ((a << BITS | b) << BITS | c) << BITS | d;
        }

        /** One of the four vertices: what is 0 to 3 for a to d. */
        static int vertexOf(int code, int what) {
            return code >> (3 - what) * BITS & MASK;
        }

        /** The switch that brings back what the switch changed. */
        static int backOf(int code) {
            return of(vertexOf(code, 0), vertexOf(code, 2), vertexOf(code, 1), vertexOf(code, 3));
        }

        /** Whether no other one of the four switches that do the same stands before this one. */
        static boolean isFirstOfFour(int a, int b, int c, int d) {
            int code = of(a, b, c, d);
            return code <= of(b, a, d, c) && code <= of(c, d, a, b) && code <= of(d, c, b, a);
        }
    }

    /** A multigraph. Its callers tell vertices that it has, and remove edges that it has. */
    private static final class Graph {
        private final int[] counts = new int[MAX_VERTICES * MAX_VERTICES];
        private int size = 1;
        private int total = 0;

        void clear(int vertexCount) {
            for (int k = 0; k < counts.length; k++) {
                counts[k] = 0;
            }
            size = vertexCount;
            total = 0;
        }

        void become(Graph other) {
            for (int k = 0; k < counts.length; k++) {
                counts[k] = other.counts[k];
            }
            size = other.size;
            total = other.total;
        }

        int vertexCount() {
            return size;
        }

        int edgeCount() {
            return total;
        }

        int between(int u, int v) {
            return counts[u * MAX_VERTICES + v];
        }

        /** Adds edges between two vertices, or takes them away if many is less than 0. */
        void put(int u, int v, int many) {
            counts[u * MAX_VERTICES + v] += many;
            if (u != v) {
                counts[v * MAX_VERTICES + u] += many;
            }
            total += many;
        }

        /** Does a switch that is possible in the mode 0. */
        void exchangeEdges(int code) {
            int a = Code.vertexOf(code, 0);
            int b = Code.vertexOf(code, 1);
            int c = Code.vertexOf(code, 2);
            int d = Code.vertexOf(code, 3);
            put(a, b, -1);
            put(c, d, -1);
            put(a, c, 1);
            put(b, d, 1);
        }

        int reasonAgainst(int mode, int a, int b, int c, int d) {
            if (between(a, b) == 0) {
                return 1;
            }
            boolean samePlace = a == c && b == d || a == d && b == c;
            if (between(c, d) < (samePlace ? 2 : 1)) {
                return 2;
            }
            if (a == d || b == c) {
                return 3;
            }
            if (mode != WITH_LOOPS && (a == c || b == d)) {
                return 4;
            }
            // The edges to be removed lie elsewhere than those to be added (reason 3), so that
            // what is there before the removal is there behind it.
            boolean isThere = between(a, c) > 0 || between(b, d) > 0;
            boolean isDouble = a == b && c == d;
            return mode == SIMPLE && (isThere || isDouble) ? 5 : 0;
        }

        int degreeOf(int vertex) {
            int sum = between(vertex, vertex);
            for (int v = 0; v < size; v++) {
                sum += between(vertex, v);
            }
            return sum;
        }

        int loopCount() {
            int sum = 0;
            for (int v = 0; v < size; v++) {
                sum += between(v, v);
            }
            return sum;
        }

        int defectCount() {
            int sum = loopCount();
            for (int u = 0; u < size; u++) {
                for (int v = u + 1; v < size; v++) {
                    sum += Math.max(0, between(u, v) - 1);
                }
            }
            return sum;
        }

        int neighbourCount(int vertex) {
            int found = 0;
            for (int v = 0; v < size; v++) {
                if (v != vertex && between(vertex, v) > 0) {
                    found++;
                }
            }
            return found;
        }

        int triangleCount() {
            int found = 0;
            for (int u = 0; u < size; u++) {
                for (int v = u + 1; v < size; v++) {
                    if (between(u, v) > 0) {
                        found += commonNeighboursBehind(u, v);
                    }
                }
            }
            return found;
        }

        private int commonNeighboursBehind(int u, int v) {
            int found = 0;
            for (int w = v + 1; w < size; w++) {
                if (between(u, w) > 0 && between(v, w) > 0) {
                    found++;
                }
            }
            return found;
        }

        /** The number of edges that the other graph does not have. */
        int surplusOver(Graph other) {
            int sum = 0;
            for (int u = 0; u < size; u++) {
                for (int v = u; v < size; v++) {
                    sum += Math.max(0, between(u, v) - other.between(u, v));
                }
            }
            return sum;
        }

        boolean hasDegreesOf(Graph other) {
            for (int v = 0; v < size; v++) {
                if (degreeOf(v) != other.degreeOf(v)) {
                    return false;
                }
            }
            return true;
        }
    }

    /** The components of a graph, and the ways in it. */
    private static final class Parts {
        /** The smallest vertex of the component of each vertex. */
        private final int[] smallest = new int[MAX_VERTICES];
        private final int[] steps = new int[MAX_VERTICES];
        private int size = 0;

        void find(Graph graph) {
            size = graph.vertexCount();
            for (int v = 0; v < size; v++) {
                smallest[v] = v;
            }
            for (int u = 0; u < size; u++) {
                for (int v = u + 1; v < size; v++) {
                    if (graph.between(u, v) > 0) {
                        merge(smallest[u], smallest[v]);
                    }
                }
            }
        }

        private void merge(int one, int other) {
            int from = Math.max(one, other);
            int into = Math.min(one, other);
            for (int v = from; v < size && from != into; v++) {
                if (smallest[v] == from) {
                    smallest[v] = into;
                }
            }
        }

        int count() {
            return countBefore(size);
        }

        int numberOf(int vertex) {
            return countBefore(smallest[vertex]);
        }

        private int countBefore(int end) {
            int found = 0;
            for (int v = 0; v < end && v < size; v++) {
                if (smallest[v] == v) {
                    found++;
                }
            }
            return found;
        }

        int countWithEdges(Graph graph) {
            int found = 0;
            for (int v = 0; v < size; v++) {
                if (smallest[v] == v && graph.degreeOf(v) > 0) {
                    found++;
                }
            }
            return found;
        }

        boolean areTogether(int u, int v) {
            return smallest[u] == smallest[v];
        }

        /** The smallest number of edges on a way, or NONE. */
        int stepsBetween(Graph graph, int from, int to) {
            size = graph.vertexCount();
            for (int v = 0; v < size; v++) {
                steps[v] = NONE;
            }
            steps[from] = 0;
            for (int made = 0; made < size && steps[to] == NONE; made++) {
                for (int v = 0; v < size; v++) {
                    if (steps[v] == made) {
                        stepOn(graph, v);
                    }
                }
            }
            return steps[to];
        }

        private void stepOn(Graph graph, int from) {
            for (int v = 0; v < size; v++) {
                if (steps[v] == NONE && graph.between(from, v) > 0) {
                    steps[v] = steps[from] + 1;
                }
            }
        }
    }

    /** A sequence of degrees, and its realisations. */
    private static final class Sequence {
        private final int[] degrees = new int[MAX_VERTICES];
        private final int[] falling = new int[MAX_VERTICES];
        private final int[] lacks = new int[MAX_VERTICES];
        private int size = 0;
        private int sum = 0;

        void clear() {
            size = 0;
            sum = 0;
        }

        boolean isFull() {
            return size >= degrees.length;
        }

        int length() {
            return size;
        }

        int total() {
            return sum;
        }

        void append(int degree) {
            if (isFull()) {
                return;
            }
            degrees[size] = degree;
            insertFalling(degree);
            size++;
            sum += degree;
        }

        private void insertFalling(int degree) {
            int place = size;
            while (place > 0 && falling[place - 1] < degree) {
                falling[place] = falling[place - 1];
                place--;
            }
            falling[place] = degree;
        }

        void take(Graph graph) {
            clear();
            for (int v = 0; v < graph.vertexCount(); v++) {
                append(graph.degreeOf(v));
            }
        }

        int greatest(int k) {
            return falling[k];
        }

        int slackOf(int k) {
            int slack = k * (k - 1);
            for (int place = 0; place < size; place++) {
                slack += place < k ? -falling[place] : Math.min(k, falling[place]);
            }
            return slack;
        }

        boolean allows(int mode) {
            if (sum % 2 != 0) {
                return false;
            }
            if (mode == WITHOUT_LOOPS) {
                return size == 0 || falling[0] <= sum - falling[0];
            }
            return mode != SIMPLE || hasNoNegativeSlack();
        }

        private boolean hasNoNegativeSlack() {
            for (int k = 1; k <= size; k++) {
                if (slackOf(k) < 0) {
                    return false;
                }
            }
            return true;
        }

        /** Makes the graph the realisation in a mode that the sequence allows. */
        void build(Graph graph, int mode) {
            graph.clear(size);
            for (int v = 0; v < size; v++) {
                lacks[v] = degrees[v];
            }
            if (mode == WITH_LOOPS) {
                buildWithLoops(graph);
            } else if (mode == WITHOUT_LOOPS) {
                buildWithoutLoops(graph);
            } else {
                buildSimple(graph);
            }
        }

        private void buildWithLoops(Graph graph) {
            int waiting = NONE;
            for (int v = 0; v < size; v++) {
                graph.put(v, v, lacks[v] / 2);
                if (lacks[v] % 2 != 0 && waiting == NONE) {
                    waiting = v;
                } else if (lacks[v] % 2 != 0) {
                    graph.put(waiting, v, 1);
                    waiting = NONE;
                }
            }
        }

        private void buildWithoutLoops(Graph graph) {
            for (int edge = 0; edge < MAX_EDGES; edge++) {
                int first = neediestBut(0);
                if (first == NONE) {
                    return;
                }
                join(graph, first, neediestBut(1 << first));
            }
        }

        private void buildSimple(Graph graph) {
            for (int round = 0; round < MAX_VERTICES; round++) {
                int first = neediestBut(0);
                if (first == NONE) {
                    return;
                }
                int taken = 1 << first;
                for (int left = Math.min(lacks[first], size); left > 0; left--) {
                    int other = neediestBut(taken);
                    join(graph, first, other);
                    taken |= other == NONE ? 0 : 1 << other;
                }
            }
        }

        private void join(Graph graph, int first, int other) {
            if (other == NONE) {
                return;
            }
            graph.put(first, other, 1);
            lacks[first]--;
            lacks[other]--;
        }

        /** The smallest one of those that lack most, without those in a set; or NONE. */
        private int neediestBut(int taken) {
            int best = NONE;
            int most = 0;
            for (int v = 0; v < size; v++) {
                if (lacks[v] > most && (taken >> v & 1) == 0) {
                    most = lacks[v];
                    best = v;
                }
            }
            return best;
        }
    }

    /** The list of the switches of a graph in a mode. */
    private static final class SwitchList {
        // 16 edges have at most 32 places in order, and a switch names two of them.
        private final int[] codes = new int[4 * MAX_EDGES * MAX_EDGES];
        private int size = 0;

        void fill(Graph graph, int mode) {
            size = 0;
            for (int a = 0; a < graph.vertexCount(); a++) {
                for (int b = 0; b < graph.vertexCount(); b++) {
                    if (graph.between(a, b) > 0) {
                        fillFrom(graph, mode, a, b);
                    }
                }
            }
        }

        private void fillFrom(Graph graph, int mode, int a, int b) {
            // With c less than a, the switch of c, d, a, b stands before this one.
            for (int c = a; c < graph.vertexCount(); c++) {
                for (int d = 0; d < graph.vertexCount(); d++) {
                    if (graph.between(c, d) > 0
                            && Code.isFirstOfFour(a, b, c, d)
                            && graph.reasonAgainst(mode, a, b, c, d) == 0) {
                        append(Code.of(a, b, c, d));
                    }
                }
            }
        }

        private void append(int code) {
            if (size < codes.length) {
                codes[size] = code;
                size++;
            }
        }

        int length() {
            return size;
        }

        int codeAt(int k) {
            return codes[k];
        }
    }

    /** The path of switches from one graph to another one with the same degrees. */
    private static final class Trail {
        // Each switch lessens the difference, which is at most 16.
        private final int[] codes = new int[MAX_EDGES];
        private final Graph walker = new Graph();
        private int size = 0;

        void find(Graph from, Graph to) {
            walker.become(from);
            size = 0;
            for (int step = 0; step < codes.length; step++) {
                int code = nextTowards(to);
                if (code == NONE) {
                    return;
                }
                walker.exchangeEdges(code);
                codes[step] = code;
                size++;
            }
        }

        private int nextTowards(Graph to) {
            for (int u = 0; u < walker.vertexCount(); u++) {
                for (int v = u; v < walker.vertexCount(); v++) {
                    if (to.between(u, v) > walker.between(u, v)) {
                        return codeThatJoins(to, u, v);
                    }
                }
            }
            return NONE;
        }

        private int codeThatJoins(Graph to, int u, int v) {
            int x = endOfSurplus(to, u, NONE);
            int y = endOfSurplus(to, v, u == v ? x : NONE);
            return x == NONE || y == NONE ? NONE : Code.of(u, x, v, y);
        }

        /**
         * The smallest vertex to which the walker has more edges than the other graph; one of them
         * is in use already if that vertex is told as used.
         */
        private int endOfSurplus(Graph to, int from, int used) {
            for (int v = 0; v < walker.vertexCount(); v++) {
                int more = walker.between(from, v) - to.between(from, v);
                if (more > (v == used ? 1 : 0)) {
                    return v;
                }
            }
            return NONE;
        }

        int length() {
            return size;
        }

        int codeAt(int k) {
            return codes[k];
        }
    }

    /** What was before the latest edits, in a ring: the oldest one gives way to an eleventh. */
    private static final class History {
        private static final int MAX_EDITS = 10;

        private final Graph[] graphs = new Graph[MAX_EDITS];
        private final Graph[] targets = new Graph[MAX_EDITS];
        private final int[] modes = new int[MAX_EDITS];
        private int size = 0;
        private int next = 0;

        History() {
            for (int k = 0; k < MAX_EDITS; k++) {
                graphs[k] = new Graph();
                targets[k] = new Graph();
            }
        }

        void forget() {
            size = 0;
            next = 0;
        }

        int length() {
            return size;
        }

        void remember(Graph graph, Graph target, int mode) {
            graphs[next].become(graph);
            targets[next].become(target);
            modes[next] = mode;
            next = next + 1 < MAX_EDITS ? next + 1 : 0;
            size = Math.min(size + 1, MAX_EDITS);
        }

        /** Takes the latest edit away; the last ones below then tell what was before it. */
        void stepBack() {
            next = next > 0 ? next - 1 : MAX_EDITS - 1;
            size = Math.max(size - 1, 0);
        }

        Graph lastGraph() {
            return graphs[next];
        }

        Graph lastTarget() {
            return targets[next];
        }

        int lastMode() {
            return modes[next];
        }
    }

    /** What was written last. */
    private static final class Output {
        // Each of 16 edges adds at most two vertices, a dash and a space.
        private final char[] signs = new char[4 * MAX_EDGES];
        private int size = 0;

        void print(Graph graph) {
            size = 0;
            for (int u = 0; u < graph.vertexCount(); u++) {
                for (int v = u; v < graph.vertexCount(); v++) {
                    if (graph.between(u, v) > 0) {
                        printEdges(u, v, graph.between(u, v));
                    }
                }
            }
        }

        private void printEdges(int u, int v, int many) {
            if (size > 0) {
                append(' ');
            }
            printDigit(u);
            append('-');
            printDigit(v);
            if (many > 1) {
                append('x');
                if (many > 9) {
                    printDigit(many / 10);
                }
                printDigit(many % 10);
            }
        }

        private void printDigit(int digit) {
            append((char) ('0' + digit));
        }

        private void append(char sign) {
            if (size < signs.length) {
                signs[size] = sign;
                size++;
            }
        }

        int length() {
            return size;
        }

        char signAt(int k) {
            return signs[k];
        }
    }

    /**
     * The buffer, and the reader of its text. It reads into graphs of its own, so that a text that
     * is not legal leaves the others as they are.
     */
    private static final class Reader {
        private static final int MAX_BYTES = 400;
        private static final int FED_AT_ONCE = 20;
        private static final int MAX_LETTERS = 8;
        private static final int MAX_DIGITS = 2;
        private static final int MAX_TIMES = 9;
        private static final int MAX_SUM = 32;

        private static final int NO_ERROR = 0;
        private static final int ILLEGAL_TOKEN = 1;
        private static final int OTHER_EXPECTED = 2;
        private static final int OUT_OF_RANGE = 3;
        private static final int BAD_SUM = 4;
        private static final int TOO_MANY = 5;

        private static final int END = 0;
        private static final int WORD = 1;
        private static final int NUMBER = 2;
        private static final int SEMICOLON = 3;
        private static final int ILLEGAL = 4;

        private final byte[] bytes = new byte[MAX_BYTES];
        private final Graph graph = new Graph();
        private final Graph target = new Graph();
        private final Sequence sequence = new Sequence();
        private int mode = WITH_LOOPS;
        private int fed = 0;
        private int length = 0;
        private int errorKind = NO_ERROR;
        private int errorPlace = NONE;
        /** The present token is of the kind token, from the byte start to the byte before end. */
        private int token = END;
        private int start = 0;
        private int end = 0;
        private int number = 0;

        boolean hasRoom() {
            return fed + FED_AT_ONCE <= MAX_BYTES;
        }

        void append(int four) {
            for (int shift = 24; shift >= 0 && fed < MAX_BYTES; shift -= 8) {
                bytes[fed] = (byte) (four >>> shift);
                fed++;
            }
        }

        int fedBytes() {
            return fed;
        }

        int kindOfError() {
            return errorKind;
        }

        int placeOfError() {
            return errorPlace;
        }

        Graph readGraph() {
            return graph;
        }

        Graph readTarget() {
            return target;
        }

        int readMode() {
            return mode;
        }

        /**
         * Reads a text from the first bytes, and tells whether it is legal. The readers of the
         * statements stop at their semicolons, where the present token tells of their errors.
         */
        boolean readText(int byteCount) {
            length = Math.min(byteCount, fed);
            fed = 0;
            end = 0;
            mode = WITH_LOOPS;
            errorKind = NO_ERROR;
            errorPlace = NONE;
            advance();
            boolean legal = readFirst();
            // A statement has a byte at least.
            for (int k = 0; k < MAX_BYTES && legal && token != END; k++) {
                advance();
                legal = token == END || readOther();
            }
            return legal;
        }

        private boolean readFirst() {
            if (token == END) {
                begin(1);
                return true;
            }
            if (isWord("vertices")) {
                return readVertices();
            }
            return isWord("degrees") ? readDegrees() : fail(OTHER_EXPECTED);
        }

        private boolean readOther() {
            if (isWord("edge")) {
                return readEdge(graph);
            }
            if (isWord("target")) {
                return readEdge(target);
            }
            return isWord("mode") ? readModeNumber() : fail(OTHER_EXPECTED);
        }

        private boolean readVertices() {
            advance();
            if (!expectNumber(1, MAX_VERTICES)) {
                return false;
            }
            begin(number);
            advance();
            return expectSemicolon();
        }

        private boolean readDegrees() {
            advance();
            sequence.clear();
            // One round more than degrees are allowed meets the one that is too many.
            for (int k = 0; k <= MAX_VERTICES && (k == 0 || token == NUMBER); k++) {
                if (!expectNumber(0, MAX_SUM)) {
                    return false;
                }
                if (sequence.isFull()) {
                    return fail(TOO_MANY);
                }
                sequence.append(number);
                advance();
            }
            if (!expectSemicolon()) {
                return false;
            }
            if (sequence.total() % 2 != 0 || sequence.total() > MAX_SUM) {
                return fail(BAD_SUM);
            }
            begin(sequence.length());
            sequence.build(graph, WITH_LOOPS);
            return true;
        }

        private boolean readEdge(Graph into) {
            advance();
            if (!expectNumber(0, graph.vertexCount() - 1)) {
                return false;
            }
            int u = number;
            advance();
            if (!expectNumber(0, graph.vertexCount() - 1)) {
                return false;
            }
            int v = number;
            advance();
            boolean isTold = token == NUMBER;
            if (isTold ? !expectNumber(1, MAX_TIMES) : !expectSemicolon()) {
                return false;
            }
            int many = isTold ? number : 1;
            if (into.edgeCount() + many > MAX_EDGES) {
                return fail(TOO_MANY);
            }
            into.put(u, v, many);
            if (isTold) {
                advance();
            }
            return expectSemicolon();
        }

        private boolean readModeNumber() {
            advance();
            if (!expectNumber(0, MAX_MODE)) {
                return false;
            }
            mode = number;
            advance();
            return expectSemicolon();
        }

        private void begin(int vertexCount) {
            graph.clear(vertexCount);
            target.clear(vertexCount);
        }

        private boolean expectNumber(int least, int most) {
            if (token != NUMBER) {
                return fail(OTHER_EXPECTED);
            }
            return number >= least && number <= most || fail(OUT_OF_RANGE);
        }

        private boolean expectSemicolon() {
            return token == SEMICOLON || fail(OTHER_EXPECTED);
        }

        /** Notes the error of the present token; it is illegal before it is anything else. */
        private boolean fail(int kind) {
            errorKind = token == ILLEGAL ? ILLEGAL_TOKEN : kind;
            errorPlace = start;
            return false;
        }

        private boolean isWord(String word) {
            if (token != WORD || end - start != word.length()) {
                return false;
            }
            for (int k = 0; k < word.length(); k++) {
                if (byteAt(start + k) != word.charAt(k)) {
                    return false;
                }
            }
            return true;
        }

        private void advance() {
            while (end < length && isBlank(byteAt(end))) {
                end++;
            }
            start = end;
            if (start >= length) {
                token = END;
            } else if (isLetter(byteAt(start))) {
                takeWord();
            } else if (isDigit(byteAt(start))) {
                takeNumber();
            } else {
                token = byteAt(start) == ';' ? SEMICOLON : ILLEGAL;
                end++;
            }
        }

        private void takeWord() {
            while (end < length && isLetter(byteAt(end))) {
                end++;
            }
            token = end - start <= MAX_LETTERS ? WORD : ILLEGAL;
        }

        private void takeNumber() {
            number = 0;
            while (end < length && isDigit(byteAt(end))) {
                number = number * 10 + byteAt(end) - '0';
                end++;
            }
            token = end - start <= MAX_DIGITS ? NUMBER : ILLEGAL;
        }

        private int byteAt(int place) {
            return place >= 0 && place < MAX_BYTES ? bytes[place] & 255 : 0;
        }

        private static boolean isBlank(int sign) {
            return sign == ' ' || sign == '\n';
        }

        private static boolean isLetter(int sign) {
            return sign >= 'a' && sign <= 'z';
        }

        private static boolean isDigit(int sign) {
            return sign >= '0' && sign <= '9';
        }
    }
}
