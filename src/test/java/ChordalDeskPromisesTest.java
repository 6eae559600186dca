import java.util.Arrays;

/** Answers worked out by hand, promise by promise: ordinary inputs, edges and wrong inputs. */
public final class ChordalDeskPromisesTest {
    private static final int ALL = 127;
    private static final int[] WRONG_VERTICES = {-1, 7, 8, 31, 32, 33, 64, -32, Integer.MIN_VALUE, Integer.MAX_VALUE};
    private static int wrong = 0;

    public static void main(String[] args) {
        newObject();
        join();
        joinRefuses();
        neighbours();
        joins();
        clique();
        neat();
        easy();
        core();
        largestClique();
        fullCliques();
        largestApart();
        colours();
        orders();
        smallestHole();
        neatJoins();
        fill();
        askingChangesNothing();
        objectsAreApart();
        System.out.println(wrong == 0 ? "all answers are as due" : wrong + " answers are not as due");
        if (wrong != 0) {
            System.exit(1);
        }
    }

    private static void due(String what, long got, long want) {
        if (got != want) {
            wrong++;
            System.out.println(what + " answered " + got + ", due is " + want);
        }
    }

    private static void due(String what, boolean got, boolean want) {
        due(what, got ? 1 : 0, want ? 1 : 0);
    }

    /** A graph from pairs written as two digits each, such as "01 12 20". */
    private static ChordalDesk graph(String pairs) {
        ChordalDesk desk = new ChordalDesk();
        for (String pair : pairs.trim().split(" +")) {
            if (!pair.isEmpty()) {
                int a = pair.charAt(0) - '0';
                int b = pair.charAt(1) - '0';
                due("join " + pair, desk.join(a, b, true), true);
            }
        }
        return desk;
    }

    private static ChordalDesk ring(int length) {
        ChordalDesk desk = new ChordalDesk();
        for (int v = 0; v < length; v++) {
            desk.join(v, (v + 1) % length, true);
        }
        return desk;
    }

    private static ChordalDesk complete(int size) {
        ChordalDesk desk = new ChordalDesk();
        for (int a = 0; a < size; a++) {
            for (int b = 0; b < a; b++) {
                desk.join(a, b, true);
            }
        }
        return desk;
    }

    private static int[] allNeighbours(ChordalDesk desk) {
        int[] sets = new int[7];
        for (int v = 0; v < 7; v++) {
            sets[v] = desk.neighbours(v);
        }
        return sets;
    }

    private static void newObject() {
        ChordalDesk desk = new ChordalDesk();
        due("1: joins of a new object", desk.joins(), 0);
        for (int v = 0; v < 7; v++) {
            due("1: neighbours of " + v + " in a new object", desk.neighbours(v), 0);
        }
        due("1: NONE", ChordalDesk.NONE, -1);
    }

    private static void join() {
        for (int a = 0; a < 7; a++) {
            for (int b = 0; b < 7; b++) {
                if (a != b) {
                    ChordalDesk desk = new ChordalDesk();
                    String pair = a + ", " + b;
                    due("2: parting the parted " + pair, desk.join(a, b, false), true);
                    due("2: nothing joined by parting " + pair, desk.joins(), 0);
                    due("2: joining " + pair, desk.join(a, b, true), true);
                    due("2: joining again " + pair, desk.join(b, a, true), true);
                    due("2: first of " + pair, desk.neighbours(a), 1 << b);
                    due("2: second of " + pair, desk.neighbours(b), 1 << a);
                    due("2: one pair with " + pair, desk.joins(), 1);
                    due("2: parting " + pair, desk.join(b, a, false), true);
                    due("2: first parted of " + pair, desk.neighbours(a), 0);
                    due("2: second parted of " + pair, desk.neighbours(b), 0);
                    ChordalDesk full = complete(7);
                    full.join(a, b, false);
                    due("2: others stay with " + a, full.neighbours(a), ALL & ~(1 << a) & ~(1 << b));
                    due("2: others stay with " + b, full.neighbours(b), ALL & ~(1 << a) & ~(1 << b));
                    due("2: others stay without " + pair, full.joins(), 20);
                }
            }
        }
    }

    private static void joinRefuses() {
        for (boolean on : new boolean[] {true, false}) {
            for (ChordalDesk desk : new ChordalDesk[] {new ChordalDesk(), graph("01 12 34 56"), complete(7)}) {
                int[] before = allNeighbours(desk);
                for (int v = 0; v < 7; v++) {
                    due("2: join(" + v + ", " + v + ")", desk.join(v, v, on), false);
                    for (int w : new int[] {-1, 7, 32 + (v + 1) % 7}) {
                        due("2: join(" + v + ", " + w + ")", desk.join(v, w, on), false);
                        due("2: join(" + w + ", " + v + ")", desk.join(w, v, on), false);
                    }
                }
                for (int w : WRONG_VERTICES) {
                    due("2: join(0, " + w + ")", desk.join(0, w, on), false);
                    due("2: join(" + w + ", 6)", desk.join(w, 6, on), false);
                    due("2: join(" + w + ", " + w + ")", desk.join(w, w, on), false);
                    due("2: join(" + w + ", 9)", desk.join(w, 9, on), false);
                }
                due("2: a refused join changes nothing", Arrays.equals(before, allNeighbours(desk)), true);
            }
        }
    }

    private static void neighbours() {
        ChordalDesk desk = graph("01 02 06 26 35");
        int[] want = {0b1000110, 0b0000001, 0b1000001, 0b0100000, 0, 0b0001000, 0b0000101};
        for (int v = 0; v < 7; v++) {
            due("3: neighbours(" + v + ")", desk.neighbours(v), want[v]);
        }
        ChordalDesk full = complete(7);
        for (int w : WRONG_VERTICES) {
            due("3: neighbours(" + w + ")", full.neighbours(w), 0);
        }
    }

    private static void joins() {
        ChordalDesk desk = new ChordalDesk();
        int count = 0;
        for (int a = 0; a < 7; a++) {
            for (int b = a + 1; b < 7; b++) {
                desk.join(b, a, true);
                count++;
                due("4: joins", desk.joins(), count);
            }
        }
        due("4: all joins", desk.joins(), 21);
        desk.join(3, 5, false);
        desk.join(5, 3, false);
        due("4: joins after one was parted twice", desk.joins(), 20);
    }

    private static void clique() {
        ChordalDesk desk = graph("01 12 20 23 45");
        due("5: the empty set", desk.clique(0), true);
        for (int v = 0; v < 7; v++) {
            due("5: a single vertex", desk.clique(1 << v), true);
        }
        due("5: a joined pair", desk.clique(0b110000), true);
        due("5: a parted pair", desk.clique(0b1100000), false);
        due("5: a triangle", desk.clique(0b111), true);
        due("5: a triangle and one more", desk.clique(0b1111), false);
        due("5: a path", desk.clique(0b1110), false);
        due("5: all", desk.clique(ALL), false);
        ChordalDesk full = complete(7);
        due("5: all joined", full.clique(ALL), true);
        for (int set : new int[] {128, 129, 255, 256, -1, -128, -127, 1 << 30, Integer.MIN_VALUE, Integer.MAX_VALUE}) {
            due("5: clique(" + set + ")", full.clique(set), false);
            due("5: clique(" + set + ") with nothing joined", new ChordalDesk().clique(set), false);
        }
    }

    private static void neat() {
        due("6: nothing joined", new ChordalDesk().neat(), true);
        due("6: all joined", complete(7).neat(), true);
        due("6: a triangle", ring(3).neat(), true);
        for (int length = 4; length <= 7; length++) {
            due("6: a ring of " + length, ring(length).neat(), false);
        }
        due("6: a tree", graph("01 02 13 14 25 26").neat(), true);
        due("6: two triangles apart", graph("01 12 20 34 45 53").neat(), true);
        due("6: a triangle and a ring of four", graph("01 12 20 34 45 56 63").neat(), false);
        due("6: a ring of four with a chord", graph("01 12 23 30 02").neat(), true);
        due("6: a ring of five with one chord", graph("01 12 23 34 40 02").neat(), false);
        due("6: a ring of five with two chords", graph("01 12 23 34 40 02 03").neat(), true);
        due("6: a wheel of four", graph("12 23 34 41 01 02 03 04").neat(), false);
    }

    private static void easy() {
        due("7: nothing joined", new ChordalDesk().easy(), ALL);
        due("7: all joined", complete(7).easy(), ALL);
        due("7: a path", graph("01 12 23 34 45 56").easy(), 0b1000001);
        due("7: a star", graph("30 31 32 34 35 36").easy(), 0b1110111);
        due("7: a ring of seven", ring(7).easy(), 0);
        due("7: a ring of four and others", ring(4).easy(), 0b1110000);
        due("7: two triangles that share a vertex", graph("01 12 20 23 34 42").easy(), 0b1111011);
    }

    private static void core() {
        due("8: nothing joined", new ChordalDesk().core(), 0);
        due("8: all joined", complete(7).core(), 0);
        due("8: a path", graph("01 12 23 34 45 56").core(), 0);
        due("8: a path that goes to and fro", graph("60 05 51 14 42 23").core(), 0);
        due("8: a ring of seven", ring(7).core(), ALL);
        due("8: a ring with a tail from its end", graph("01 12 23 30 34 45 56").core(), 0b0001111);
        due("8: a ring with a tail to its start", graph("34 45 56 63 32 21 10").core(), 0b1111000);
        due("8: two rings with a shared vertex", graph("01 12 23 30 34 45 56 63").core(), ALL);
        due("8: a path between rings' ends stays", graph("01 12 23 30 45").core(), 0b0001111);
        due("8: a triangle tied to a ring", graph("01 12 23 30 34 45 53").core(), 0b0001111);
    }

    private static void largestClique() {
        due("9: nothing joined", new ChordalDesk().largestClique(), 1);
        for (int size = 1; size <= 7; size++) {
            due("9: " + size + " joined two by two", complete(size).largestClique(), size);
        }
        due("9: a ring of seven", ring(7).largestClique(), 2);
        due("9: a triangle and a ring", graph("01 12 23 30 45 56 64").largestClique(), 3);
    }

    private static void fullCliques() {
        due("10: nothing joined", new ChordalDesk().fullCliques(), 7);
        due("10: all joined", complete(7).fullCliques(), 1);
        due("10: five joined two by two", complete(5).fullCliques(), 3);
        due("10: a ring of seven", ring(7).fullCliques(), 7);
        due("10: a star", graph("30 31 32 34 35 36").fullCliques(), 6);
        due("10: three groups, each joined to the others", graph("02 03 04 05 06 12 13 14 15 16 24 25 26 34 35 36")
                .fullCliques(), 12);
        due("10: two triangles that share a pair", graph("01 12 20 13 32").fullCliques(), 5);
    }

    private static void largestApart() {
        due("11: nothing joined", new ChordalDesk().largestApart(), 7);
        for (int size = 1; size <= 7; size++) {
            due("11: " + size + " joined two by two", complete(size).largestApart(), 8 - size);
        }
        due("11: a ring of seven", ring(7).largestApart(), 3);
        due("11: a star", graph("30 31 32 34 35 36").largestApart(), 6);
        due("11: three pairs", graph("01 23 45").largestApart(), 4);
    }

    private static void colours() {
        due("12: nothing joined", new ChordalDesk().colours(), 1);
        for (int size = 1; size <= 7; size++) {
            due("12: " + size + " joined two by two", complete(size).colours(), size);
        }
        due("12: a ring of six", ring(6).colours(), 2);
        due("12: a ring of seven", ring(7).colours(), 3);
        due("12: a wheel of five has no clique of four", graph("01 12 23 34 40 50 51 52 53 54").colours(), 4);
        due("12: six in two sides but one pair each", graph("04 05 13 15 23 24").colours(), 2);
        due("12: the spindle", graph("01 02 12 13 23 04 05 45 46 56 36").colours(), 4);
        ChordalDesk desk = complete(7);
        desk.colours();
        desk.join(2, 5, false);
        due("12: fewer after parting", desk.colours(), 6);
    }

    private static void orders() {
        due("13: nothing joined", new ChordalDesk().orders(), 5040);
        due("13: all joined", complete(7).orders(), 5040);
        // The last two of a path can stand anywhere at the end: 2 choices at each of the first 6 places.
        due("13: a path", graph("01 12 23 34 45 56").orders(), 64);
        // The middle of a star is easy only when at most one other is left.
        due("13: a star", graph("30 31 32 34 35 36").orders(), 2 * 720);
        due("13: a ring of seven", ring(7).orders(), 0);
        due("13: a ring of four", ring(4).orders(), 0);
        // The middle of three in a row may not come first of them.
        due("13: three in a row", graph("01 12").orders(), 5040 * 2 / 3);
        ChordalDesk desk = graph("01 12");
        due("13: after colours", desk.colours() + desk.orders() + desk.colours(), 2 + 3360 + 2);
    }

    private static void smallestHole() {
        due("14: nothing joined", new ChordalDesk().smallestHole(), -1);
        due("14: all joined", complete(7).smallestHole(), -1);
        due("14: a triangle", ring(3).smallestHole(), -1);
        for (int length = 4; length <= 7; length++) {
            due("14: a ring of " + length, ring(length).smallestHole(), length);
        }
        due("14: two triangles apart", graph("01 12 20 34 45 53").smallestHole(), -1);
        due("14: a triangle and a ring of four", graph("01 12 20 34 45 56 63").smallestHole(), 4);
        due("14: a ring of seven cut to five", graph("01 12 23 34 45 56 60 03 02").smallestHole(), 5);
        due("14: a ring of seven cut to four and five", graph("01 12 23 34 45 56 60 03").smallestHole(), 4);
        due("14: five among the low, four among the high", graph("01 12 23 34 40 35 56 64").smallestHole(), 4);
        due("14: a ring of six cut to five", graph("01 12 23 34 45 50 02").smallestHole(), 5);
    }

    private static void neatJoins() {
        due("15: nothing joined", new ChordalDesk().neatJoins(), 21);
        due("15: all joined", complete(7).neatJoins(), 0);
        ChordalDesk lacking = complete(7);
        lacking.join(1, 4, false);
        due("15: one pair missing", lacking.neatJoins(), 1);
        due("15: a ring of four and others", ring(4).neatJoins(), 2);
        due("15: a ring of five", ring(5).neatJoins(), 0);
        // A path of seven stays neat with the five pairs two steps apart.
        due("15: a path", graph("01 12 23 34 45 56").neatJoins(), 5);
        // Of a path of three and four others: its ends, and each pair with at least one of the others.
        due("15: three in a row", graph("01 12").neatJoins(), 19);
    }

    private static void fill() {
        due("16: nothing joined", new ChordalDesk().fill(), 0);
        due("16: all joined", complete(7).fill(), 0);
        due("16: a tree", graph("01 02 13 14 25 26").fill(), 0);
        due("16: a ring of four", ring(4).fill(), 1);
        due("16: a ring of five", ring(5).fill(), 2);
        due("16: a ring of six", ring(6).fill(), 3);
        due("16: a ring of seven", ring(7).fill(), 3);
        due("16: two rings with a shared vertex", graph("01 12 23 30 34 45 56 63").fill(), 2);
        due("16: two against three", graph("02 03 04 12 13 14").fill(), 1);
        due("16: three against three", graph("03 04 05 13 14 15 23 24 25").fill(), 3);
        due("16: three missing pairs", graph("02 03 04 05 12 13 14 15 24 25 34 35").fill(), 2);
    }

    private static void askingChangesNothing() {
        for (ChordalDesk desk : new ChordalDesk[] {new ChordalDesk(), ring(4), ring(5), ring(6), complete(6)}) {
            int[] before = allNeighbours(desk);
            for (int time = 0; time < 2; time++) {
                int[] answers = allAnswers(desk);
                due("asking leaves the pairs", Arrays.equals(before, allNeighbours(desk)), true);
                due("asking again answers alike", Arrays.equals(answers, allAnswers(desk)), true);
            }
        }
    }

    private static int[] allAnswers(ChordalDesk desk) {
        return new int[] {desk.fill(), desk.neatJoins(), desk.smallestHole(), desk.orders(), desk.colours(),
            desk.largestApart(), desk.fullCliques(), desk.largestClique(), desk.core(), desk.easy(),
            desk.neat() ? 1 : 0, desk.clique(15) ? 1 : 0, desk.joins()};
    }

    private static void objectsAreApart() {
        ChordalDesk one = new ChordalDesk();
        ChordalDesk other = new ChordalDesk();
        one.join(0, 1, true);
        due("1: another object", other.joins(), 0);
        due("1: this object", one.joins(), 1);
    }
}
