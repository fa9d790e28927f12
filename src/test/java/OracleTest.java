import java.lang.reflect.Method;
import java.util.ArrayList;
import java.util.List;
import java.util.Random;

/**
 * Runs of drawn calls, all methods of the class, on the program and on the oracle: each answer or
 * exception is the same. The seeds are fixed; a number of runs may be told as an argument.
 */
public final class OracleTest {
    private static final int RUNS = 400;
    private static final int CALLS = 500;

    private final Random random;
    private final Both both = new Both();
    private final SwitchGraphs program = both.program;

    private OracleTest(long seed) {
        random = new Random(seed);
    }

    public static void main(String[] args) {
        int runs = args.length > 0 ? Integer.parseInt(args[0]) : RUNS;
        long from = args.length > 1 ? Long.parseLong(args[1]) : 1;
        for (long seed = from; seed < from + runs && Check.allRight(); seed++) {
            new OracleTest(seed).run(seed);
        }
        Both.everyMethodAnswered();
        Check.end();
    }

    private void run(long seed) {
        // The texts come in calls of feed, so that a run keeps to its number of calls.
        loadText(drawText());
        List<String> names = new ArrayList<>(Both.METHODS.keySet());
        names.remove("feed");
        names.remove("load");
        while (both.calls().size() < CALLS && Check.allRight()) {
            int dice = random.nextInt(1000);
            if (dice < 25) {
                loadText(drawText());
            } else if (dice < 30) {
                both.compare("load", drawSmall(50));
            } else if (dice < 32) {
                for (int k = 0; k < 21; k++) {
                    both.compare("feed", random.nextInt(), random.nextInt(), random.nextInt(),
                            random.nextInt(), random.nextInt());
                }
            } else {
                String name = names.get(random.nextInt(names.size()));
                both.compare(name, drawParameters(Both.METHODS.get(name)));
            }
        }
        if (!Check.allRight()) {
            System.out.println("seed " + seed + ":");
            both.calls().forEach(System.out::println);
        }
    }

    private void loadText(String text) {
        both.feed(text);
        boolean whole = random.nextInt(20) > 0;
        both.compare("load", whole ? text.length() : random.nextInt(text.length() + 1));
        both.compare("errorKind");
        both.compare("errorPosition");
        both.compare("write", 0);
        both.compare("write", 1);
    }

    // ---- drawing

    private String drawText() {
        StringBuilder text = new StringBuilder();
        int n = 1 + random.nextInt(8);
        boolean faulty = random.nextInt(3) == 0;
        if (random.nextInt(3) > 0) {
            text.append("vertices ").append(n).append(";");
        } else {
            drawDegrees(text, n, faulty);
        }
        int statements = random.nextInt(random.nextBoolean() ? 8 : 18);
        for (int k = 0; k < statements; k++) {
            drawStatement(text, n, faulty);
        }
        if (faulty) {
            for (int k = random.nextInt(3); k > 0; k--) {
                spoil(text);
            }
        } else if (random.nextBoolean()) {
            mirrorEdges(text);
        }
        return text.substring(0, Math.min(text.length(), 400));
    }

    private void drawDegrees(StringBuilder text, int n, boolean faulty) {
        text.append("degrees");
        int sum = 0;
        for (int v = 0; v < n; v++) {
            int degree = random.nextInt(faulty ? 8 : Math.min(5, 33 - sum));
            if (v == n - 1 && !faulty && (sum + degree) % 2 != 0) {
                degree = degree > 0 ? degree - 1 : degree + 1;
            }
            sum += degree;
            text.append(' ').append(degree);
        }
        if (faulty && random.nextInt(4) == 0) {
            text.append(" 1 1 1 1 1 1 1 1 1");
        }
        text.append(";");
    }

    private void drawStatement(StringBuilder text, int n, boolean faulty) {
        int dice = random.nextInt(10);
        if (dice == 0) {
            text.append("mode ").append(random.nextInt(faulty ? 4 : 3)).append(";");
            return;
        }
        int most = faulty && random.nextInt(6) == 0 ? n + 1 : n;
        text.append(dice < 6 ? "edge " : "target ").append(random.nextInt(most)).append(' ')
                .append(random.nextInt(most));
        if (random.nextInt(4) == 0) {
            text.append(' ').append(faulty ? random.nextInt(11) : 1 + random.nextInt(3));
        }
        text.append(";");
        if (random.nextInt(5) == 0) {
            text.append(random.nextBoolean() ? ' ' : '\n');
        }
    }

    private void spoil(StringBuilder text) {
        String signs = " ;;0123456789aedgm\n,\u00ff\u0000X-";
        int place = random.nextInt(text.length() + 1);
        int dice = random.nextInt(3);
        char sign = signs.charAt(random.nextInt(signs.length()));
        if (dice == 0 || place == text.length()) {
            text.insert(place, sign);
        } else if (dice == 1) {
            text.setCharAt(place, sign);
        } else {
            text.deleteCharAt(place);
        }
    }

    /** Gives the target the degrees of the graph, so that there is a path. */
    private void mirrorEdges(StringBuilder text) {
        int first = text.indexOf(";") + 1;
        StringBuilder edges = new StringBuilder(text.substring(0, first));
        List<int[]> pairs = new ArrayList<>();
        int n = text.charAt(0) == 'v' ? text.charAt(9) - '0' : 0;
        for (int k = random.nextInt(17); n > 0 && k > 0; k--) {
            pairs.add(new int[] {random.nextInt(n), random.nextInt(n)});
        }
        List<Integer> ends = new ArrayList<>();
        for (int[] pair : pairs) {
            edges.append("edge ").append(pair[0]).append(' ').append(pair[1]).append(';');
            ends.add(pair[0]);
            ends.add(pair[1]);
        }
        // Some pairs stay, so that short distances come up.
        int moved = Math.min(ends.size(), random.nextBoolean() ? 8 : 32);
        java.util.Collections.shuffle(ends.subList(0, moved), random);
        for (int k = 0; k < ends.size(); k += 2) {
            edges.append("target").append(ends.get(k)).append(' ').append(ends.get(k + 1)).append(';');
        }
        if (n > 0 && edges.length() <= 392) {
            edges.append("mode ").append(random.nextInt(3)).append(';');
        }
        if (n > 0 && edges.length() <= 400) {
            text.setLength(0);
            text.append(edges);
        }
    }

    private int[] drawParameters(Method method) {
        Class<?>[] types = method.getParameterTypes();
        int[] drawn = new int[types.length];
        String name = method.getName();
        for (int k = 0; k < types.length; k++) {
            drawn[k] = types[k] == boolean.class ? random.nextInt(2) : drawSmall(most(name, k));
        }
        // Most drawn switches have no edges: take some from the list.
        if (types.length == 4 && program.switches() > 0 && random.nextInt(3) > 0) {
            int place = random.nextInt(program.switches());
            int turn = random.nextInt(4);
            for (int k = 0; k < 4; k++) {
                drawn[k] = program.switchAt(place, k ^ turn);
            }
            if (random.nextInt(4) == 0) {
                drawn[random.nextInt(4)] = drawSmall(program.vertices());
            }
        }
        return drawn;
    }

    private int most(String name, int parameter) {
        switch (name) {
            case "isPossible":
            case "realise":
            case "setMode":
                return 3;
            case "follow":
                return 17;
            case "written":
                return 30;
            case "slack":
                return program.vertices() + 1;
            case "switchAt":
                return parameter == 1 ? 4 : program.switches();
            case "path":
                return parameter == 1 ? 4 : 5;
            default:
                return program.vertices();
        }
    }

    private int drawSmall(int most) {
        int dice = random.nextInt(60);
        if (dice == 0) {
            return random.nextInt();
        }
        if (dice == 1) {
            return random.nextBoolean() ? Integer.MIN_VALUE : Integer.MAX_VALUE;
        }
        return dice < 5 ? random.nextInt(most + 12) - 5 : random.nextInt(Math.max(1, most));
    }
}
