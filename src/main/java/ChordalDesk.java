/**
 * Looks for an order in which a small graph falls apart neatly.
 *
 * <p>Sets of vertices are numbers: bit v stands for vertex v. With seven vertices there are only
 * 128 sets, so most answers simply go through all of them.
 */
public final class ChordalDesk {
    public static final int NONE = -1;

    private static final int VERTICES = 7;
    private static final int SETS = 128;
    private static final int ALL = SETS - 1;
    private static final int LEAST_HOLE = 4;
    private static final int MORE_THAN_TWO = 3;

    /** The neighbours of each vertex; both ends of a pair are always kept alike. */
    private final int[] near = new int[VERTICES];

    /** A number for each set, filled anew by each call that uses it. */
    private final int[] table = new int[SETS];

    public ChordalDesk() {
    }

    public boolean join(int a, int b, boolean on) {
        if (a == b || !isVertex(a) || !isVertex(b)) {
            return false;
        }
        if (on) {
            link(a, b);
        } else {
            part(a, b);
        }
        return true;
    }

    public int neighbours(int v) {
        return isVertex(v) ? near[v] : 0;
    }

    public int joins() {
        int count = 0;
        for (int a = 0; a < VERTICES; a++) {
            for (int b = a + 1; b < VERTICES; b++) {
                if (has(near[a], b)) {
                    count++;
                }
            }
        }
        return count;
    }

    public boolean clique(int set) {
        return set >= 0 && set <= ALL && allJoined(set);
    }

    public boolean neat() {
        for (int set = 0; set < SETS; set++) {
            if (isHole(set)) {
                return false;
            }
        }
        return true;
    }

    public int easy() {
        int found = 0;
        for (int v = 0; v < VERTICES; v++) {
            if (isEasy(v, ALL)) {
                found |= 1 << v;
            }
        }
        return found;
    }

    public int core() {
        int left = ALL;
        // A round that takes nothing is the last one that matters, so one round per vertex is enough.
        for (int round = 0; round < VERTICES; round++) {
            for (int v = 0; v < VERTICES; v++) {
                if (has(left, v) && isEasy(v, left)) {
                    left &= ~(1 << v);
                }
            }
        }
        return left;
    }

    public int largestClique() {
        int largest = 0;
        for (int set = 0; set < SETS; set++) {
            int size = size(set);
            if (size > largest && allJoined(set)) {
                largest = size;
            }
        }
        return largest;
    }

    public int fullCliques() {
        int count = 0;
        for (int set = 0; set < SETS; set++) {
            if (allJoined(set) && !canGrow(set)) {
                count++;
            }
        }
        return count;
    }

    public int largestApart() {
        int largest = 0;
        for (int set = 0; set < SETS; set++) {
            int size = size(set);
            if (size > largest && noneJoined(set)) {
                largest = size;
            }
        }
        return largest;
    }

    public int colours() {
        table[0] = 0;
        // What is left of a set without one of its colours is a smaller number, so it is known already.
        for (int set = 1; set < SETS; set++) {
            table[set] = coloursOf(set);
        }
        return table[ALL];
    }

    public int orders() {
        table[0] = 1;
        // A set without its first vertex is a smaller number, so it is known already.
        for (int set = 1; set < SETS; set++) {
            table[set] = ordersOf(set);
        }
        return table[ALL];
    }

    public int smallestHole() {
        int smallest = NONE;
        for (int set = 0; set < SETS; set++) {
            if (isHole(set)) {
                int size = size(set);
                if (smallest == NONE || size < smallest) {
                    smallest = size;
                }
            }
        }
        return smallest;
    }

    public int neatJoins() {
        int count = 0;
        for (int a = 0; a < VERTICES; a++) {
            for (int b = a + 1; b < VERTICES; b++) {
                if (!has(near[a], b)) {
                    // The pair is joined for the look alone, and parted again before anything else.
                    link(a, b);
                    if (neat()) {
                        count++;
                    }
                    part(a, b);
                }
            }
        }
        return count;
    }

    public int fill() {
        if (neat()) {
            return 0;
        }
        if (neatJoins() > 0) {
            return 1;
        }
        for (int a = 0; a < VERTICES; a++) {
            for (int b = a + 1; b < VERTICES; b++) {
                if (!has(near[a], b)) {
                    link(a, b);
                    int seconds = neatJoins();
                    part(a, b);
                    if (seconds > 0) {
                        return 2;
                    }
                }
            }
        }
        return MORE_THAN_TWO;
    }

    private static boolean isVertex(int v) {
        return v >= 0 && v < VERTICES;
    }

    private static boolean has(int set, int v) {
        return (set >> v & 1) != 0;
    }

    private static int size(int set) {
        int count = 0;
        for (int v = 0; v < VERTICES; v++) {
            count += set >> v & 1;
        }
        return count;
    }

    private void link(int a, int b) {
        near[a] |= 1 << b;
        near[b] |= 1 << a;
    }

    private void part(int a, int b) {
        near[a] &= ~(1 << b);
        near[b] &= ~(1 << a);
    }

    private boolean allJoined(int set) {
        for (int v = 0; v < VERTICES; v++) {
            if (has(set, v) && (set & ~near[v]) != 1 << v) {
                return false;
            }
        }
        return true;
    }

    private boolean noneJoined(int set) {
        for (int v = 0; v < VERTICES; v++) {
            if (has(set, v) && (set & near[v]) != 0) {
                return false;
            }
        }
        return true;
    }

    private boolean isEasy(int v, int set) {
        return allJoined(near[v] & set);
    }

    /** Subsets of cliques are cliques, so a clique is full when no single vertex can be added. */
    private boolean canGrow(int set) {
        for (int v = 0; v < VERTICES; v++) {
            if (!has(set, v) && (set & ~near[v]) == 0) {
                return true;
            }
        }
        return false;
    }

    private int coloursOf(int set) {
        int least = VERTICES;
        for (int one = 1; one <= set; one++) {
            if ((one & ~set) == 0 && noneJoined(one)) {
                int count = table[set & ~one] + 1;
                if (count < least) {
                    least = count;
                }
            }
        }
        return least;
    }

    private int ordersOf(int set) {
        int count = 0;
        for (int v = 0; v < VERTICES; v++) {
            if (has(set, v) && isEasy(v, set)) {
                count += table[set & ~(1 << v)];
            }
        }
        return count;
    }

    private boolean isHole(int set) {
        if (size(set) < LEAST_HOLE) {
            return false;
        }
        for (int v = 0; v < VERTICES; v++) {
            if (has(set, v)) {
                int inside = near[v] & set;
                if (size(inside) != 2) {
                    return false;
                }
            }
        }
        return hangsTogether(set);
    }

    private boolean hangsTogether(int set) {
        int reached = set & -set;
        // Each round reaches at least one vertex more until all that can be reached are.
        for (int round = 0; round < VERTICES; round++) {
            for (int v = 0; v < VERTICES; v++) {
                // Not by has: below fill that would be the sixth call deep, as deep as calls may go.
                if ((reached >> v & 1) != 0) {
                    reached |= near[v] & set;
                }
            }
        }
        return reached == set;
    }
}
