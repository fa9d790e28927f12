import java.util.ArrayList;
import java.util.Arrays;
import java.util.HashSet;
import java.util.LinkedHashSet;
import java.util.List;
import java.util.NoSuchElementException;
import java.util.Set;
import java.util.TreeSet;

/**
 * The document once more, written from its words alone and for plainness: a graph is a sorted list
 * of edges, and each answer is searched for. OracleTest holds the program against it.
 */
final class Oracle {
    /** An edge is 10 * u + v, with u not greater than v. */
    static final class State {
        int n = 1;
        int mode = 0;
        List<Integer> graph = new ArrayList<>();
        List<Integer> target = new ArrayList<>();

        State copy() {
            State s = new State();
            s.n = n;
            s.mode = mode;
            s.graph = new ArrayList<>(graph);
            s.target = new ArrayList<>(target);
            return s;
        }
    }

    private State now = new State();
    private final List<State> before = new ArrayList<>();
    private final List<Integer> buffer = new ArrayList<>();
    private int errorKind = 0;
    private int errorPosition = -1;
    private String output = "";

    // ---- edges

    static int edge(int u, int v) {
        return 10 * Math.min(u, v) + Math.max(u, v);
    }

    static int times(List<Integer> g, int u, int v) {
        int found = 0;
        for (int e : g) {
            found += e == edge(u, v) ? 1 : 0;
        }
        return found;
    }

    static List<Integer> with(List<Integer> g, int u, int v) {
        List<Integer> more = new ArrayList<>(g);
        more.add(edge(u, v));
        more.sort(null);
        return more;
    }

    static List<Integer> without(List<Integer> g, int u, int v) {
        List<Integer> less = new ArrayList<>(g);
        less.remove(Integer.valueOf(edge(u, v)));
        return less;
    }

    static int[] degrees(List<Integer> g, int n) {
        int[] degrees = new int[n];
        for (int e : g) {
            degrees[e / 10]++;
            degrees[e % 10]++;
        }
        return degrees;
    }

    static int defects(List<Integer> g) {
        int found = 0;
        Set<Integer> seen = new HashSet<>();
        for (int e : g) {
            if (e / 10 == e % 10 || !seen.add(e)) {
                found++;
            }
        }
        return found;
    }

    /** Edges of the one that the other does not have. */
    static int difference(List<Integer> g, List<Integer> t) {
        List<Integer> rest = new ArrayList<>(g);
        for (Integer e : t) {
            rest.remove(e);
        }
        return rest.size();
    }

    static Set<Integer> reached(List<Integer> g, int from) {
        Set<Integer> found = new TreeSet<>();
        found.add(from);
        boolean grows = true;
        while (grows) {
            grows = false;
            for (int e : g) {
                if (found.contains(e / 10) != found.contains(e % 10)) {
                    found.add(e / 10);
                    found.add(e % 10);
                    grows = true;
                }
            }
        }
        return found;
    }

    /** The components in their order. */
    static List<Set<Integer>> parts(List<Integer> g, int n) {
        Set<Set<Integer>> parts = new LinkedHashSet<>();
        for (int v = 0; v < n; v++) {
            parts.add(reached(g, v));
        }
        return new ArrayList<>(parts);
    }

    static int partsWithEdges(List<Integer> g) {
        Set<Set<Integer>> parts = new HashSet<>();
        for (int e : g) {
            parts.add(reached(g, e / 10));
        }
        return parts.size();
    }

    // ---- switches

    static int reason(List<Integer> g, int mode, int a, int b, int c, int d) {
        if (!g.contains(edge(a, b))) {
            return 1;
        }
        List<Integer> rest = without(g, a, b);
        if (!rest.contains(edge(c, d))) {
            return 2;
        }
        rest = without(rest, c, d);
        if (a == d || b == c) {
            return 3;
        }
        if (mode != 0 && (a == c || b == d)) {
            return 4;
        }
        if (mode == 2 && (rest.contains(edge(a, c)) || rest.contains(edge(b, d))
                || edge(a, c) == edge(b, d))) {
            return 5;
        }
        return 0;
    }

    static List<Integer> behind(List<Integer> g, int[] s) {
        return with(with(without(without(g, s[0], s[1]), s[2], s[3]), s[0], s[2]), s[1], s[3]);
    }

    static List<int[]> switches(List<Integer> g, int n, int mode) {
        List<int[]> list = new ArrayList<>();
        Set<String> done = new HashSet<>();
        for (int a = 0; a < n; a++) {
            for (int b = 0; b < n; b++) {
                for (int c = 0; c < n; c++) {
                    for (int d = 0; d < n; d++) {
                        if (reason(g, mode, a, b, c, d) == 0 && !done.contains("" + a + b + c + d)) {
                            list.add(new int[] {a, b, c, d});
                            done.add("" + b + a + d + c);
                            done.add("" + c + d + a + b);
                            done.add("" + d + c + b + a);
                        }
                    }
                }
            }
        }
        return list;
    }

    static List<int[]> path(List<Integer> from, List<Integer> t, int n) {
        List<int[]> path = new ArrayList<>();
        List<Integer> g = from;
        while (!g.equals(t)) {
            int[] next = nextOfPath(g, t, n);
            if (reason(g, 0, next[0], next[1], next[2], next[3]) != 0) {
                throw new AssertionError("the path leaves the switches");
            }
            path.add(next);
            g = behind(g, next);
        }
        return path;
    }

    private static int[] nextOfPath(List<Integer> g, List<Integer> t, int n) {
        for (int u = 0; u < n; u++) {
            for (int v = u; v < n; v++) {
                if (times(t, u, v) > times(g, u, v)) {
                    int x = 0;
                    while (times(g, u, x) <= times(t, u, x)) {
                        x++;
                    }
                    int y = 0;
                    while (times(g, v, y) < times(t, v, y) + (u == v && y == x ? 2 : 1)) {
                        y++;
                    }
                    return new int[] {u, x, v, y};
                }
            }
        }
        throw new AssertionError("no edge is missing");
    }

    static int distance(List<Integer> from, List<Integer> t, int n) {
        Set<List<Integer>> seen = new HashSet<>();
        seen.add(from);
        for (int steps = 0; steps < 3; steps++) {
            if (seen.contains(t)) {
                return steps;
            }
            if (steps == 2) {
                break;
            }
            for (List<Integer> g : new ArrayList<>(seen)) {
                for (int[] s : switches(g, n, 0)) {
                    seen.add(behind(g, s));
                }
            }
        }
        return 3;
    }

    // ---- realisations

    static int slack(int[] degrees, int k) {
        int[] d = degrees.clone();
        Arrays.sort(d);
        int slack = k * (k - 1);
        for (int j = 0; j < d.length; j++) {
            int degree = d[d.length - 1 - j];
            slack += j < k ? -degree : Math.min(k, degree);
        }
        return slack;
    }

    static boolean possible(int[] d, int mode) {
        int sum = Arrays.stream(d).sum();
        boolean possible = sum % 2 == 0;
        for (int v = 0; v < d.length; v++) {
            possible &= mode != 1 || d[v] <= sum - d[v];
            possible &= mode != 2 || slack(d, v + 1) >= 0;
        }
        return possible;
    }

    static List<Integer> realise(int[] degrees, int mode) {
        List<Integer> g = new ArrayList<>();
        int[] d = degrees.clone();
        if (mode == 0) {
            List<Integer> odd = new ArrayList<>();
            for (int v = 0; v < d.length; v++) {
                for (int k = 0; k < d[v] / 2; k++) {
                    g = with(g, v, v);
                }
                if (d[v] % 2 == 1) {
                    odd.add(v);
                }
            }
            for (int k = 0; k + 1 < odd.size(); k += 2) {
                g = with(g, odd.get(k), odd.get(k + 1));
            }
            return g;
        }
        while (Arrays.stream(d).sum() > 0) {
            List<Integer> order = byLack(d);
            int first = order.get(0);
            int many = mode == 1 ? 1 : d[first];
            for (int k = 1; k <= many; k++) {
                if (d[order.get(k)] == 0) {
                    throw new AssertionError("a possible sequence is not realised");
                }
                g = with(g, first, order.get(k));
                d[first]--;
                d[order.get(k)]--;
            }
        }
        return g;
    }

    private static List<Integer> byLack(int[] d) {
        List<Integer> order = new ArrayList<>();
        for (int v = 0; v < d.length; v++) {
            order.add(v);
        }
        order.sort((x, y) -> d[x] != d[y] ? d[y] - d[x] : x - y);
        return order;
    }

    // ---- the text

    private static final class Fault extends Exception {
        private static final long serialVersionUID = 1;
        final int kind;
        final int position;

        Fault(int kind, int position) {
            this.kind = kind;
            this.position = position;
        }
    }

    /** The tokens with their places, by a pattern; the last one is the end of the text. */
    private static final class Tokens {
        final List<String> words = new ArrayList<>();
        final List<Integer> places = new ArrayList<>();
        int next = 0;

        Tokens(String text) {
            java.util.regex.Matcher m = java.util.regex.Pattern
                    .compile("[a-z]+|[0-9]+|[^ \\n]", java.util.regex.Pattern.DOTALL).matcher(text);
            while (m.find()) {
                words.add(m.group());
                places.add(m.start());
            }
            words.add("");
            places.add(text.length());
        }

        String peek() {
            return words.get(next);
        }

        Fault fault(int kind) {
            String w = peek();
            boolean legal = w.isEmpty() || w.matches("[a-z]{1,8}|[0-9]{1,2}|;");
            return new Fault(legal ? kind : 1, places.get(next));
        }

        void literal(String... allowed) throws Fault {
            if (!Arrays.asList(allowed).contains(peek())) {
                throw fault(2);
            }
        }

        boolean atNumber() {
            return peek().matches("[0-9]{1,2}");
        }

        int number(int least, int most) throws Fault {
            if (!atNumber()) {
                throw fault(2);
            }
            int number = Integer.parseInt(peek());
            if (number < least || number > most) {
                throw fault(3);
            }
            return number;
        }
    }

    private static State parse(String text) throws Fault {
        State s = new State();
        Tokens t = new Tokens(text);
        if (t.peek().isEmpty()) {
            return s;
        }
        t.literal("vertices", "degrees");
        if (t.words.get(t.next++).equals("vertices")) {
            s.n = t.number(1, 8);
            t.next++;
            t.literal(";");
        } else {
            parseDegrees(s, t);
        }
        t.next++;
        while (!t.peek().isEmpty()) {
            t.literal("edge", "target", "mode");
            String statement = t.words.get(t.next++);
            if (statement.equals("mode")) {
                s.mode = t.number(0, 2);
                t.next++;
            } else if (statement.equals("edge")) {
                s.graph = parseEdge(s.graph, s.n, t);
            } else {
                s.target = parseEdge(s.target, s.n, t);
            }
            t.literal(";");
            t.next++;
        }
        return s;
    }

    private static void parseDegrees(State s, Tokens t) throws Fault {
        List<Integer> degrees = new ArrayList<>();
        int sum = 0;
        do {
            int degree = t.number(0, 32);
            if (degrees.size() == 8) {
                throw t.fault(5);
            }
            degrees.add(degree);
            sum += degree;
            t.next++;
        } while (t.atNumber());
        t.literal(";");
        if (sum % 2 != 0 || sum > 32) {
            throw t.fault(4);
        }
        s.n = degrees.size();
        s.graph = realise(degrees.stream().mapToInt(Integer::intValue).toArray(), 0);
    }

    private static List<Integer> parseEdge(List<Integer> g, int n, Tokens t) throws Fault {
        int u = t.number(0, n - 1);
        t.next++;
        int v = t.number(0, n - 1);
        t.next++;
        boolean told = t.atNumber();
        int times = 1;
        if (told) {
            times = t.number(1, 9);
        } else {
            t.literal(";");
        }
        if (g.size() + times > 16) {
            throw t.fault(5);
        }
        t.next += told ? 1 : 0;
        List<Integer> more = g;
        for (int k = 0; k < times; k++) {
            more = with(more, u, v);
        }
        return more;
    }

    // ---- the calls, by their names; a boolean counts 1 or 0

    int feed(int... words) {
        if (buffer.size() + 20 > 400) {
            return -2;
        }
        for (int word : words) {
            for (byte b : java.nio.ByteBuffer.allocate(4).putInt(word).array()) {
                buffer.add(b & 255);
            }
        }
        return buffer.size();
    }

    int load(int length) {
        if (length < 0 || length > buffer.size()) {
            throw new IllegalArgumentException();
        }
        StringBuilder text = new StringBuilder();
        for (int k = 0; k < length; k++) {
            text.append((char) (int) buffer.get(k));
        }
        buffer.clear();
        try {
            now = parse(text.toString());
        } catch (Fault fault) {
            errorKind = fault.kind;
            errorPosition = fault.position;
            return -3;
        }
        errorKind = 0;
        errorPosition = -1;
        before.clear();
        return now.graph.size();
    }

    private void vertices(int... vertices) {
        for (int v : vertices) {
            if (v < 0 || v >= now.n) {
                throw new IndexOutOfBoundsException();
            }
        }
    }

    private static void index(boolean exists) {
        if (!exists) {
            throw new IndexOutOfBoundsException();
        }
    }

    private static void argument(int value, int most) {
        if (value < 0 || value > most) {
            throw new IllegalArgumentException();
        }
    }

    private static void there(boolean isThere) {
        if (!isThere) {
            throw new NoSuchElementException();
        }
    }

    private static void state(boolean allows) {
        if (!allows) {
            throw new IllegalStateException();
        }
    }

    private boolean alike() {
        return Arrays.equals(degrees(now.graph, now.n), degrees(now.target, now.n));
    }

    private void remember() {
        before.add(now.copy());
        if (before.size() > 10) {
            before.remove(0);
        }
    }

    private boolean bridge(int u, int v) {
        return !reached(without(now.graph, u, v), u).contains(v);
    }

    private int way(int from, int to) {
        Set<Integer> found = new TreeSet<>();
        found.add(from);
        for (int steps = 0; steps < 9; steps++) {
            if (found.contains(to)) {
                return steps;
            }
            Set<Integer> more = new TreeSet<>(found);
            for (int e : now.graph) {
                if (found.contains(e / 10)) {
                    more.add(e % 10);
                }
                if (found.contains(e % 10)) {
                    more.add(e / 10);
                }
            }
            found = more;
        }
        return -1;
    }

    private int triangles() {
        int found = 0;
        for (int u = 0; u < now.n; u++) {
            for (int v = 0; v < u; v++) {
                for (int w = 0; w < v; w++) {
                    found += now.graph.contains(edge(u, v)) && now.graph.contains(edge(u, w))
                            && now.graph.contains(edge(v, w)) ? 1 : 0;
                }
            }
        }
        return found;
    }

    private int neighbours(int v) {
        int found = 0;
        for (int w = 0; w < now.n; w++) {
            found += w != v && now.graph.contains(edge(v, w)) ? 1 : 0;
        }
        return found;
    }

    private int nearest() {
        List<int[]> list = switches(now.graph, now.n, now.mode);
        there(!list.isEmpty());
        int best = 0;
        for (int k = 1; k < list.size(); k++) {
            if (difference(behind(now.graph, list.get(k)), now.target)
                    < difference(behind(now.graph, list.get(best)), now.target)) {
                best = k;
            }
        }
        return best;
    }

    private int connect() {
        remember();
        boolean found = true;
        while (found) {
            found = false;
            for (int[] s : switches(now.graph, now.n, now.mode)) {
                List<Integer> next = behind(now.graph, s);
                if (partsWithEdges(next) < partsWithEdges(now.graph)) {
                    now.graph = next;
                    found = true;
                    break;
                }
            }
        }
        return partsWithEdges(now.graph);
    }

    private int simplify() {
        remember();
        boolean found = true;
        while (found) {
            List<Integer> best = now.graph;
            for (int[] s : switches(now.graph, now.n, 0)) {
                List<Integer> next = behind(now.graph, s);
                if (defects(next) < defects(best)) {
                    best = next;
                }
            }
            found = best != now.graph;
            now.graph = best;
        }
        return defects(now.graph);
    }

    private int undo() {
        if (before.isEmpty()) {
            return -1;
        }
        now = before.remove(before.size() - 1);
        return before.size();
    }

    private int write(boolean target) {
        StringBuilder text = new StringBuilder();
        List<Integer> g = target ? now.target : now.graph;
        for (int e : new TreeSet<>(g)) {
            int times = times(g, e / 10, e % 10);
            text.append(text.length() > 0 ? " " : "").append(e / 10).append("-").append(e % 10)
                    .append(times > 1 ? "x" + times : "");
        }
        output = text.toString();
        return output.length();
    }

    double meanDegree() {
        return 2.0 * now.graph.size() / now.n;
    }

    /** What a call answers; p has its parameters, a boolean one as 1 or 0. */
    int call(String name, int... p) {
        int n = now.n;
        List<Integer> g = now.graph;
        List<Integer> t = now.target;
        switch (name) {
            case "feed":
                return feed(p);
            case "load":
                return load(p[0]);
            case "errorKind":
                return errorKind;
            case "errorPosition":
                return errorPosition;
            case "vertices":
                return n;
            case "mode":
                return now.mode;
            case "edges":
                return (p[0] == 1 ? t : g).size();
            case "times":
                vertices(p[0], p[1]);
                return times(p[2] == 1 ? t : g, p[0], p[1]);
            case "degree":
                vertices(p[0]);
                return degrees(p[1] == 1 ? t : g, n)[p[0]];
            case "loops":
                return (int) g.stream().filter(e -> e / 10 == e % 10).count();
            case "defects":
                return defects(g);
            case "isSimple":
                return defects(g) == 0 ? 1 : 0;
            case "neighbours":
                vertices(p[0]);
                return neighbours(p[0]);
            case "triangles":
                return triangles();
            case "components":
                return parts(g, n).size();
            case "component":
                vertices(p[0]);
                return parts(g, n).indexOf(reached(g, p[0]));
            case "isConnected":
                return partsWithEdges(g) <= 1 ? 1 : 0;
            case "isBridge":
                vertices(p[0], p[1]);
                there(g.contains(edge(p[0], p[1])));
                return bridge(p[0], p[1]) ? 1 : 0;
            case "bridges":
                return (int) g.stream().filter(e -> bridge(e / 10, e % 10)).count();
            case "way":
                vertices(p[0], p[1]);
                return way(p[0], p[1]);
            case "sorted": {
                vertices(p[0]);
                int[] d = degrees(g, n);
                Arrays.sort(d);
                return d[n - 1 - p[0]];
            }
            case "slack":
                index(p[0] >= 1 && p[0] <= n);
                return slack(degrees(g, n), p[0]);
            case "isPossible":
                argument(p[0], 2);
                return possible(degrees(g, n), p[0]) ? 1 : 0;
            case "reason":
                vertices(p);
                return reason(g, now.mode, p[0], p[1], p[2], p[3]);
            case "switches":
                return switches(g, n, now.mode).size();
            case "switchAt": {
                List<int[]> list = switches(g, n, now.mode);
                index(p[0] >= 0 && p[0] < list.size());
                argument(p[1], 3);
                return list.get(p[0])[p[1]];
            }
            case "componentsBehind":
                vertices(p);
                state(reason(g, now.mode, p[0], p[1], p[2], p[3]) == 0);
                return parts(behind(g, p), n).size();
            case "nearest":
                return nearest();
            case "isAlike":
                return alike() ? 1 : 0;
            case "difference":
                return difference(g, t);
            case "pathLength":
                state(alike());
                return path(g, t, n).size();
            case "path": {
                state(alike());
                List<int[]> path = path(g, t, n);
                index(p[0] >= 0 && p[0] < path.size());
                argument(p[1], 3);
                return path.get(p[0])[p[1]];
            }
            case "distance":
                state(alike());
                return distance(g, t, n);
            default:
                return edit(name, p);
        }
    }

    private int edit(String name, int... p) {
        switch (name) {
            case "addEdge":
                vertices(p);
                state(now.graph.size() < 16);
                remember();
                now.graph = with(now.graph, p[0], p[1]);
                return times(now.graph, p[0], p[1]);
            case "removeEdge":
                vertices(p);
                there(now.graph.contains(edge(p[0], p[1])));
                remember();
                now.graph = without(now.graph, p[0], p[1]);
                return times(now.graph, p[0], p[1]);
            case "switchEdges":
                vertices(p);
                state(reason(now.graph, now.mode, p[0], p[1], p[2], p[3]) == 0);
                remember();
                now.graph = behind(now.graph, p);
                return defects(now.graph);
            case "realise":
                argument(p[0], 2);
                state(possible(degrees(now.graph, now.n), p[0]));
                remember();
                now.graph = realise(degrees(now.graph, now.n), p[0]);
                return defects(now.graph);
            case "follow": {
                argument(p[0], 16);
                state(alike());
                remember();
                List<int[]> path = path(now.graph, now.target, now.n);
                for (int[] s : path.subList(0, Math.min(p[0], path.size()))) {
                    now.graph = behind(now.graph, s);
                }
                return difference(now.graph, now.target);
            }
            case "connect":
                return connect();
            case "simplify":
                return simplify();
            case "exchange": {
                remember();
                List<Integer> g = now.graph;
                now.graph = now.target;
                now.target = g;
                return difference(now.graph, now.target);
            }
            case "copyToTarget": {
                remember();
                int difference = difference(now.graph, now.target);
                now.target = now.graph;
                return difference;
            }
            case "setMode": {
                argument(p[0], 2);
                remember();
                int mode = now.mode;
                now.mode = p[0];
                return mode;
            }
            case "undo":
                return undo();
            case "write":
                return write(p[0] == 1);
            case "written":
                index(p[0] >= 0 && p[0] < output.length());
                return output.charAt(p[0]);
            default:
                throw new AssertionError("no such call: " + name);
        }
    }
}
