import java.util.ArrayList;
import java.util.List;

/**
 * Compares the class with a second way to each answer: searches over a table of pairs that share no
 * code and, where there is a choice, no method with the class.
 */
public final class ChordalDeskReferenceTest {
    private static final int N = 7;
    private static final int MOST_CALLS = 512;
    private static final int SPREAD_GRAPHS = 3000;
    private static final int LONG_RUNS = 60;
    private static int wrong = 0;
    private static long seed = 20261115L;

    public static void main(String[] args) {
        smallGraphs();
        spreadGraphs();
        nearlyCompleteGraphs();
        longRuns();
        System.out.println(wrong == 0 ? "all answers are as due" : wrong + " answers are not as due");
        if (wrong != 0) {
            System.exit(1);
        }
    }

    /** Every graph of five vertices, set on five of the seven in two ways. */
    private static void smallGraphs() {
        int[][] places = {{0, 1, 2, 3, 4}, {6, 4, 3, 1, 0}};
        for (int[] place : places) {
            for (int pairs = 0; pairs < 1 << 10; pairs++) {
                boolean[][] graph = new boolean[N][N];
                int bit = 0;
                for (int a = 0; a < 5; a++) {
                    for (int b = a + 1; b < 5; b++) {
                        set(graph, place[a], place[b], (pairs >> bit & 1) != 0);
                        bit++;
                    }
                }
                compare(graph);
            }
        }
    }

    /** Graphs of all densities over all seven vertices, the same ones each time. */
    private static void spreadGraphs() {
        for (int number = 0; number < SPREAD_GRAPHS; number++) {
            int eighths = 1 + number % 7;
            boolean[][] graph = new boolean[N][N];
            for (int a = 0; a < N; a++) {
                for (int b = a + 1; b < N; b++) {
                    set(graph, a, b, next(8) < eighths);
                }
            }
            compare(graph);
        }
    }

    /** All joined but for three pairs at most. */
    private static void nearlyCompleteGraphs() {
        List<int[]> all = missing(new boolean[N][N]);
        for (int i = 0; i < all.size(); i++) {
            for (int j = i; j < all.size(); j++) {
                for (int k = j; k < all.size(); k += 3) {
                    boolean[][] graph = new boolean[N][N];
                    for (int[] pair : all) {
                        set(graph, pair[0], pair[1], true);
                    }
                    for (int part : new int[] {i, j, k}) {
                        set(graph, all.get(part)[0], all.get(part)[1], false);
                    }
                    compare(graph);
                }
            }
        }
    }

    /** One object through as many calls as the document allows, joins and questions mixed. */
    private static void longRuns() {
        for (int run = 0; run < LONG_RUNS; run++) {
            ChordalDesk desk = new ChordalDesk();
            boolean[][] graph = new boolean[N][N];
            int leaning = 2 + run % 5;
            for (int call = 0; call < MOST_CALLS; call++) {
                if (next(3) == 0) {
                    int a = next(9) - 1;
                    int b = next(9) - 1;
                    boolean on = next(8) < leaning;
                    boolean good = a != b && a >= 0 && b >= 0 && a < N && b < N;
                    if (good) {
                        set(graph, a, b, on);
                    }
                    due(graph, "join(" + a + ", " + b + ", " + on + ")", desk.join(a, b, on) ? 1 : 0, good ? 1 : 0);
                } else {
                    compareOne(graph, desk, next(15));
                }
            }
        }
    }

    private static void compareOne(boolean[][] graph, ChordalDesk desk, int question) {
        if (question == 13) {
            int set = next(140) - 6;
            due(graph, "clique(" + set + ")", desk.clique(set) ? 1 : 0, set >= 0 && set < 128 && isClique(graph, set) ? 1 : 0);
        } else if (question == 14) {
            int v = next(9) - 1;
            due(graph, "neighbours(" + v + ")", desk.neighbours(v), v >= 0 && v < N ? neighbours(graph, v) : 0);
        } else {
            ask(graph, desk, question);
        }
    }

    private static void compare(boolean[][] graph) {
        ChordalDesk desk = new ChordalDesk();
        for (int a = 0; a < N; a++) {
            for (int b = 0; b < a; b++) {
                if (graph[a][b]) {
                    desk.join(a, b, true);
                }
            }
        }
        for (int v = 0; v < N; v++) {
            due(graph, "neighbours(" + v + ")", desk.neighbours(v), neighbours(graph, v));
        }
        for (int set = 0; set < 128; set++) {
            due(graph, "clique(" + set + ")", desk.clique(set) ? 1 : 0, isClique(graph, set) ? 1 : 0);
        }
        for (int question = 0; question < 13; question++) {
            ask(graph, desk, question);
        }
        // Known of every graph: it is neat just when it falls apart, and then its colours fit its largest clique.
        boolean neat = desk.neat();
        due(graph, "neat() against core()", neat ? 1 : 0, desk.core() == 0 ? 1 : 0);
        due(graph, "neat() against orders()", neat ? 1 : 0, desk.orders() > 0 ? 1 : 0);
        due(graph, "neat() against fill()", neat ? 1 : 0, desk.fill() == 0 ? 1 : 0);
        if (neat) {
            due(graph, "colours() against largestClique()", desk.colours(), desk.largestClique());
        }
    }

    private static void ask(boolean[][] graph, ChordalDesk desk, int question) {
        switch (question) {
            case 0 -> due(graph, "joins()", desk.joins(), 21 - missing(graph).size());
            case 1 -> due(graph, "neat()", desk.neat() ? 1 : 0, hole(graph) == -1 ? 1 : 0);
            case 2 -> due(graph, "easy()", desk.easy(), easyIn(graph, 127));
            case 3 -> due(graph, "core()", desk.core(), core(graph));
            case 4 -> due(graph, "largestClique()", desk.largestClique(), widest(graph, true, 0, new ArrayList<>()));
            case 5 -> due(graph, "fullCliques()", desk.fullCliques(), fullCliques(graph));
            case 6 -> due(graph, "largestApart()", desk.largestApart(), widest(graph, false, 0, new ArrayList<>()));
            case 7 -> due(graph, "colours()", desk.colours(), colours(graph));
            case 8 -> due(graph, "orders()", desk.orders(), orders(graph, 127));
            case 9 -> due(graph, "smallestHole()", desk.smallestHole(), hole(graph));
            case 10 -> due(graph, "neatJoins()", desk.neatJoins(), neatJoins(graph));
            case 11 -> due(graph, "fill()", desk.fill(), fill(graph));
            default -> due(graph, "NONE", ChordalDesk.NONE, -1);
        }
    }

    private static void due(boolean[][] graph, String call, int got, int want) {
        if (got != want) {
            wrong++;
            if (wrong <= 50) {
                System.out.println(call + " answered " + got + ", due is " + want + ", with" + text(graph));
            }
        }
    }

    private static String text(boolean[][] graph) {
        StringBuilder text = new StringBuilder();
        for (int a = 0; a < N; a++) {
            for (int b = a + 1; b < N; b++) {
                if (graph[a][b]) {
                    text.append(' ').append(a).append(b);
                }
            }
        }
        return text.toString();
    }

    private static int next(int bound) {
        seed = seed * 6364136223846793005L + 1442695040888963407L;
        return (int) ((seed >>> 33) % bound);
    }

    private static void set(boolean[][] graph, int a, int b, boolean on) {
        graph[a][b] = on;
        graph[b][a] = on;
    }

    private static int neighbours(boolean[][] graph, int v) {
        int found = 0;
        for (int w = 0; w < N; w++) {
            found += graph[v][w] ? 1 << w : 0;
        }
        return found;
    }

    private static List<int[]> missing(boolean[][] graph) {
        List<int[]> pairs = new ArrayList<>();
        for (int a = 0; a < N; a++) {
            for (int b = a + 1; b < N; b++) {
                if (!graph[a][b]) {
                    pairs.add(new int[] {a, b});
                }
            }
        }
        return pairs;
    }

    private static boolean isClique(boolean[][] graph, int set) {
        for (int[] pair : missing(graph)) {
            if ((set >> pair[0] & 1) != 0 && (set >> pair[1] & 1) != 0) {
                return false;
            }
        }
        return true;
    }

    private static boolean isEasy(boolean[][] graph, int v, int set) {
        for (int a = 0; a < N; a++) {
            for (int b = 0; b < a; b++) {
                boolean both = (set >> a & 1) != 0 && (set >> b & 1) != 0;
                if (both && graph[v][a] && graph[v][b] && !graph[a][b]) {
                    return false;
                }
            }
        }
        return true;
    }

    private static int easyIn(boolean[][] graph, int set) {
        int found = 0;
        for (int v = 0; v < N; v++) {
            if ((set >> v & 1) != 0 && isEasy(graph, v, set)) {
                found |= 1 << v;
            }
        }
        return found;
    }

    /** Takes the highest easy vertex each time, where the class starts with the lowest. */
    private static int core(boolean[][] graph) {
        int left = 127;
        while (easyIn(graph, left) != 0) {
            left -= Integer.highestOneBit(easyIn(graph, left));
        }
        return left;
    }

    /** The most vertices from v on that can be added to those chosen, all pairs joined or all parted. */
    private static int widest(boolean[][] graph, boolean joined, int v, List<Integer> chosen) {
        if (v == N) {
            return chosen.size();
        }
        int best = widest(graph, joined, v + 1, chosen);
        if (chosen.stream().allMatch(w -> graph[v][w] == joined)) {
            List<Integer> more = new ArrayList<>(chosen);
            more.add(v);
            best = Math.max(best, widest(graph, joined, v + 1, more));
        }
        return best;
    }

    private static int fullCliques(boolean[][] graph) {
        boolean[] cliques = new boolean[128];
        for (int set = 0; set < 128; set++) {
            cliques[set] = isClique(graph, set);
        }
        int count = 0;
        for (int set = 0; set < 128; set++) {
            boolean full = cliques[set];
            for (int larger = set + 1; larger < 128; larger++) {
                full = full && !(cliques[larger] && (set & larger) == set);
            }
            count += full ? 1 : 0;
        }
        return count;
    }

    private static int colours(boolean[][] graph) {
        int count = 1;
        while (!canColour(graph, count, new int[N], 0)) {
            count++;
        }
        return count;
    }

    private static boolean canColour(boolean[][] graph, int count, int[] colour, int v) {
        if (v == N) {
            return true;
        }
        for (int c = 0; c < count; c++) {
            boolean free = true;
            for (int w = 0; w < v; w++) {
                free = free && !(graph[v][w] && colour[w] == c);
            }
            colour[v] = c;
            if (free && canColour(graph, count, colour, v + 1)) {
                return true;
            }
        }
        return false;
    }

    private static int orders(boolean[][] graph, int left) {
        if (left == 0) {
            return 1;
        }
        int easy = easyIn(graph, left);
        int count = 0;
        for (int v = 0; v < N; v++) {
            if ((easy >> v & 1) != 0) {
                count += orders(graph, left - (1 << v));
            }
        }
        return count;
    }

    /** The length of a shortest closed walk without chords, found by lengthening walks; -1 when there is none. */
    private static int hole(boolean[][] graph) {
        int best = N + 1;
        for (int start = 0; start < N; start++) {
            best = Math.min(best, closedWalk(graph, List.of(start)));
        }
        return best > N ? -1 : best;
    }

    private static int closedWalk(boolean[][] graph, List<Integer> walk) {
        int best = N + 1;
        int last = walk.get(walk.size() - 1);
        for (int v = 0; v < N; v++) {
            if (graph[last][v] && !walk.contains(v) && !touchesMiddle(graph, walk, v)) {
                if (walk.size() >= 2 && graph[walk.get(0)][v]) {
                    best = walk.size() >= 3 ? Math.min(best, walk.size() + 1) : best;
                } else {
                    List<Integer> longer = new ArrayList<>(walk);
                    longer.add(v);
                    best = Math.min(best, closedWalk(graph, longer));
                }
            }
        }
        return best;
    }

    private static boolean touchesMiddle(boolean[][] graph, List<Integer> walk, int v) {
        for (int at = 1; at < walk.size() - 1; at++) {
            if (graph[walk.get(at)][v]) {
                return true;
            }
        }
        return false;
    }

    private static int neatJoins(boolean[][] graph) {
        int count = 0;
        for (int[] pair : missing(graph)) {
            count += fallsApartWith(graph, pair, pair) ? 1 : 0;
        }
        return count;
    }

    private static int fill(boolean[][] graph) {
        if (core(graph) == 0) {
            return 0;
        }
        List<int[]> pairs = missing(graph);
        int least = 3;
        for (int i = 0; i < pairs.size(); i++) {
            for (int j = i; j < pairs.size(); j++) {
                if (fallsApartWith(graph, pairs.get(i), pairs.get(j))) {
                    least = Math.min(least, i == j ? 1 : 2);
                }
            }
        }
        return least;
    }

    private static boolean fallsApartWith(boolean[][] graph, int[] one, int[] other) {
        boolean[][] more = new boolean[N][];
        for (int v = 0; v < N; v++) {
            more[v] = graph[v].clone();
        }
        set(more, one[0], one[1], true);
        set(more, other[0], other[1], true);
        return core(more) == 0;
    }
}
