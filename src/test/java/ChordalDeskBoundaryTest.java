import java.util.ArrayList;
import java.util.Arrays;
import java.util.List;

/** A test of its own for each sentence of the document that names a boundary case, with answers worked out by hand. */
public final class ChordalDeskBoundaryTest {
    private static final int N = 7;
    private static final int ALL = 127;
    private static final int NO_HOLE = -1;
    private static final int MOST_CALLS = 512;
    private static final int[] TOO_SMALL = {-1, -2, -7, -31, -32, -64, -128, Integer.MIN_VALUE, Integer.MIN_VALUE + 1};
    // A shift by 32 or 38 is one by 0 or 6, and 256 and 2^30 + 1 made a byte are 0 and 1.
    private static final int[] TOO_LARGE = {7, 8, 15, 31, 32, 33, 38, 64, 127, 128, 256, 65536, (1 << 30) + 1,
        Integer.MAX_VALUE - 1, Integer.MAX_VALUE};
    /** What each question of {@link #answer} answers of a ring of six, with 6 joined to none. */
    private static final int[] RING_OF_SIX = {6, 0, 64, 63, 2, 7, 4, 2, 0, 6, 0, 3, 17, 1, 1};
    private static String about = "";
    private static int wrong = 0;

    public static void main(String[] args) {
        terms();
        changingAndLooking();
        takingApart();
        counting();
        mending();
        useOfAnObject();
        System.out.println(wrong == 0 ? "all boundary cases hold" : wrong + " answers are not as due");
        if (wrong != 0) {
            System.exit(1);
        }
    }

    private static void terms() {
        test("Terms: There are vertices 0 .. 6", ChordalDeskBoundaryTest::firstAndLastVertex);
        test("Terms: two different vertices may be joined", ChordalDeskBoundaryTest::everyPairMayBeJoined);
        test("Terms: Sets of vertices are numbers (bit v for vertex v)", ChordalDeskBoundaryTest::bitOfEachVertex);
        test("Terms: A CLIQUE is a set whose vertices are joined two by two", ChordalDeskBoundaryTest::onePairShort);
        test("Terms: the empty set", ChordalDeskBoundaryTest::emptySetIsClique);
        test("Terms: and single vertices too", ChordalDeskBoundaryTest::singleVertexIsClique);
        test("Terms: A HOLE is a set of four or more vertices", ChordalDeskBoundaryTest::holeHasFourOrMore);
        test("Terms: exactly two neighbours in the set: not fewer", ChordalDeskBoundaryTest::holeWithFewerNeighbours);
        test("Terms: exactly two neighbours in the set: not more", ChordalDeskBoundaryTest::holeWithMoreNeighbours);
        test("Terms: in the set: others do not count", ChordalDeskBoundaryTest::holeWithNeighboursOutside);
        test("Terms: and which hangs together", ChordalDeskBoundaryTest::holeHangsTogether);
        test("Terms: NEAT when it has no hole", ChordalDeskBoundaryTest::neatUntilTheLastPair);
        test("Terms: EASY when its neighbours in the set form a clique", ChordalDeskBoundaryTest::easyAtTheEdges);
    }

    private static void changingAndLooking() {
        test("1: Nothing is joined", ChordalDeskBoundaryTest::newObject);
        test("1: Nothing is joined, whatever another object holds", ChordalDeskBoundaryTest::newObjectBesideAnother);
        test("2: answers true, also when the pair is joined already", ChordalDeskBoundaryTest::joinTwice);
        test("2: answers true, also when the pair is parted already", ChordalDeskBoundaryTest::partTwice);
        test("2: false when a = b", ChordalDeskBoundaryTest::joinWithItself);
        test("2: false when one is not 0 .. 6: too small", () -> joinRefused(TOO_SMALL));
        test("2: false when one is not 0 .. 6: too large", () -> joinRefused(TOO_LARGE));
        test("2: false when both are not 0 .. 6", ChordalDeskBoundaryTest::joinOfTwoWrong);
        test("2: false, changing nothing", ChordalDeskBoundaryTest::refusedJoinChangesNothing);
        test("3: 0 when v is not 0 .. 6: too small", () -> noNeighbours(TOO_SMALL));
        test("3: 0 when v is not 0 .. 6: too large", () -> noNeighbours(TOO_LARGE));
        test("3: The neighbours of v: none, and all others", ChordalDeskBoundaryTest::neighboursNoneAndAll);
        test("4: The number of joined pairs: none, one, all", ChordalDeskBoundaryTest::joinsNoneOneAll);
        test("5: false when it is not 0 .. 127: too small", () -> notAClique(TOO_SMALL));
        test("5: false when it is not 0 .. 127: too large", ChordalDeskBoundaryTest::tooLargeForAClique);
        test("5: 0 and 127 are sets", ChordalDeskBoundaryTest::leastAndGreatestSet);
    }

    private static void takingApart() {
        test("6: neat at the edges", ChordalDeskBoundaryTest::neatAtTheEdges);
        test("7: easy in the set of all vertices", ChordalDeskBoundaryTest::easyOfAll);
        test("8: core at the edges", ChordalDeskBoundaryTest::coreAtTheEdges);
        test("8: easy in what is left each time", ChordalDeskBoundaryTest::easyInWhatIsLeft);
        test("8: until there is none", ChordalDeskBoundaryTest::untilThereIsNone);
        test("8: it does not depend on which ones are taken", ChordalDeskBoundaryTest::coreInEveryOrder);
    }

    private static void counting() {
        test("9: largestClique at the edges", ChordalDeskBoundaryTest::largestCliqueAtTheEdges);
        test("10: cliques that are subsets of no larger one", ChordalDeskBoundaryTest::fullCliquesAtTheEdges);
        test("11: largestApart at the edges", ChordalDeskBoundaryTest::largestApartAtTheEdges);
        test("12: The least number of colours", ChordalDeskBoundaryTest::coloursAtTheEdges);
        test("13: orders at the edges", ChordalDeskBoundaryTest::ordersAtTheEdges);
        test("13: no order when there is a hole", ChordalDeskBoundaryTest::noOrder);
    }

    private static void mending() {
        test("14: NONE when there is none", ChordalDeskBoundaryTest::noSmallestHole);
        test("14: a smallest hole: the least and the greatest", ChordalDeskBoundaryTest::smallestHoleOfEachSize);
        test("14: a smallest hole among several", ChordalDeskBoundaryTest::smallestOfSeveralHoles);
        test("15: not joined now", ChordalDeskBoundaryTest::neatJoinsNotJoinedNow);
        test("15: so that the graph would be neat: also when it is", ChordalDeskBoundaryTest::neatJoinsOfNeatGraph);
        test("15: with just this pair more", ChordalDeskBoundaryTest::neatJoinsJustOne);
        test("15: would be: the pairs are not joined", () -> lookingChangesNothing(true));
        test("16: besides: none is needed", ChordalDeskBoundaryTest::fillNone);
        test("16: when at most two are needed: one", ChordalDeskBoundaryTest::fillOne);
        test("16: when at most two are needed: two", ChordalDeskBoundaryTest::fillTwo);
        test("16: 3 when more are: three", ChordalDeskBoundaryTest::fillThree);
        test("16: 3 when more are: four", ChordalDeskBoundaryTest::fillFour);
        test("16: must be joined: the pairs are not joined", () -> lookingChangesNothing(false));
    }

    private static void useOfAnObject() {
        test("What it is: at most 512 calls: the last one, after all kinds", ChordalDeskBoundaryTest::lastOfMixedCalls);
        test("What it is: at most 512 calls: the same one", ChordalDeskBoundaryTest::sameCallToTheLast);
        test("What it is: at most 512 calls: refused ones", ChordalDeskBoundaryTest::refusedCallsToTheLast);
        test("What it is: at most 512 calls: joining and parting", ChordalDeskBoundaryTest::joinsToTheLast);
    }

    private static void test(String sentence, Runnable body) {
        about = sentence;
        try {
            body.run();
        } catch (RuntimeException thrown) {
            // No call may ever throw; the other sentences are still to be tested.
            wrong++;
            System.out.println(about + " | a call threw " + thrown);
        }
    }

    private static void due(String what, int got, int want) {
        if (got != want) {
            wrong++;
            System.out.println(about + " | " + what + " answered " + got + ", due is " + want);
        }
    }

    private static void due(String what, boolean got, boolean want) {
        due(what, got ? 1 : 0, want ? 1 : 0);
    }

    private static ChordalDesk nothing() {
        return new ChordalDesk();
    }

    /** A graph from pairs written as two digits each, such as "01 12 20". */
    private static ChordalDesk graph(String pairs) {
        ChordalDesk desk = new ChordalDesk();
        change(desk, pairs, true);
        return desk;
    }

    private static ChordalDesk full() {
        return graph("01 02 03 04 05 06 12 13 14 15 16 23 24 25 26 34 35 36 45 46 56");
    }

    private static ChordalDesk fullWithout(String pairs) {
        ChordalDesk desk = full();
        change(desk, pairs, false);
        return desk;
    }

    private static void change(ChordalDesk desk, String pairs, boolean on) {
        for (String pair : pairs.split(" ")) {
            due("join " + pair + " " + on, desk.join(pair.charAt(0) - '0', pair.charAt(1) - '0', on), true);
        }
    }

    private static ChordalDesk ring(int length) {
        ChordalDesk desk = new ChordalDesk();
        for (int v = 0; v < length; v++) {
            desk.join(v, (v + 1) % length, true);
        }
        return desk;
    }

    private static int[] allNeighbours(ChordalDesk desk) {
        int[] sets = new int[N];
        for (int v = 0; v < N; v++) {
            sets[v] = desk.neighbours(v);
        }
        return sets;
    }

    private static void dueUnchanged(String what, ChordalDesk desk, int[] before) {
        due(what + " changed something", !Arrays.equals(before, allNeighbours(desk)), false);
    }

    // Terms

    private static void firstAndLastVertex() {
        ChordalDesk desk = nothing();
        due("join(0, 6)", desk.join(0, 6, true), true);
        due("neighbours(0)", desk.neighbours(0), 64);
        due("neighbours(6)", desk.neighbours(6), 1);
        due("parting 6 and 0", desk.join(6, 0, false), true);
        due("neighbours(0) when parted", desk.neighbours(0), 0);
        due("neighbours(6) when parted", desk.neighbours(6), 0);
    }

    private static void everyPairMayBeJoined() {
        for (int a = 0; a < N; a++) {
            for (int b = 0; b < N; b++) {
                if (a != b) {
                    ChordalDesk desk = nothing();
                    due("join(" + a + ", " + b + ")", desk.join(a, b, true), true);
                    for (int v = 0; v < N; v++) {
                        int want = v == a ? 1 << b : v == b ? 1 << a : 0;
                        due("neighbours(" + v + ") with " + a + ", " + b, desk.neighbours(v), want);
                    }
                }
            }
        }
    }

    private static void bitOfEachVertex() {
        ChordalDesk star = graph("30 31 32 34 35 36");
        int[] want = {8, 8, 8, 119, 8, 8, 8};
        for (int v = 0; v < N; v++) {
            due("neighbours(" + v + ") of a star", star.neighbours(v), want[v]);
        }
        due("easy of a star", star.easy(), 119);
        due("core of a ring on 3 .. 6", graph("34 45 56 63").core(), 120);
        due("clique of 3 and 6", star.clique(8 + 64), true);
        due("clique of 0 and 6", star.clique(1 + 64), false);
    }

    private static void onePairShort() {
        for (int a = 0; a < N; a++) {
            for (int b = 0; b < a; b++) {
                ChordalDesk desk = fullWithout("" + a + b);
                String pair = " without " + a + ", " + b;
                due("clique(127)" + pair, desk.clique(ALL), false);
                due("the pair" + pair, desk.clique(1 << a | 1 << b), false);
                due("all but one" + pair, desk.clique(ALL - (1 << a)), true);
                due("all but the other" + pair, desk.clique(ALL - (1 << b)), true);
            }
        }
    }

    private static void emptySetIsClique() {
        due("clique(0), nothing joined", nothing().clique(0), true);
        due("clique(0), all joined", full().clique(0), true);
        due("clique(0), a ring", ring(7).clique(0), true);
        due("easy of a vertex without neighbours", graph("01 12 23 30").easy() & 112, 112);
    }

    private static void singleVertexIsClique() {
        for (int v = 0; v < N; v++) {
            due("clique of " + v + ", nothing joined", nothing().clique(1 << v), true);
            due("clique of " + v + ", all joined", full().clique(1 << v), true);
            due("clique of " + v + ", a ring", ring(7).clique(1 << v), true);
        }
        due("easy of a vertex with one neighbour", graph("01 12 23 30 34 56").easy() & 112, 112);
    }

    private static void holeHasFourOrMore() {
        due("three: smallestHole", ring(3).smallestHole(), NO_HOLE);
        due("three: neat", ring(3).neat(), true);
        for (int length = 4; length <= N; length++) {
            due(length + ": smallestHole", ring(length).smallestHole(), length);
            due(length + ": neat", ring(length).neat(), false);
        }
        due("four, the last ones", graph("36 64 45 53").smallestHole(), 4);
    }

    private static void holeWithFewerNeighbours() {
        due("no neighbour", nothing().neat(), true);
        due("one neighbour each", graph("01 23 45").neat(), true);
        due("one neighbour at two ends", graph("01 12 23 34 45 56").neat(), true);
        due("one neighbour at one end", graph("01 12 20 23").neat(), true);
        due("smallestHole of a path", graph("01 12 23 34 45 56").smallestHole(), NO_HOLE);
    }

    private static void holeWithMoreNeighbours() {
        due("four all joined", graph("01 02 03 12 13 23").neat(), true);
        due("four with one pair across", graph("01 12 23 30 02").neat(), true);
        due("four with the other pair across", graph("01 12 23 30 13").neat(), true);
        due("two triangles with a shared vertex", graph("01 12 20 23 34 42").neat(), true);
        due("a fan over seven", graph("01 12 23 34 45 60 61 62 63 64 65").smallestHole(), NO_HOLE);
    }

    private static void holeWithNeighboursOutside() {
        due("a ring of four around one", graph("01 12 23 30 40 41 42 43").smallestHole(), 4);
        due("a ring of six around one", graph("01 12 23 34 45 50 60 61 62 63 64 65").smallestHole(), 6);
        due("a ring of four in all else", fullWithout("02 13").smallestHole(), 4);
        due("a ring of four with tails", graph("01 12 23 30 04 15 26").neat(), false);
    }

    private static void holeHangsTogether() {
        due("two triangles: smallestHole", graph("01 12 20 34 45 53").smallestHole(), NO_HOLE);
        due("two triangles: neat", graph("01 12 20 34 45 53").neat(), true);
        due("two triangles: fill", graph("06 62 20 13 34 41").fill(), 0);
        due("two triangles mixed: smallestHole", graph("02 24 40 13 36 61").smallestHole(), NO_HOLE);
        due("the last of a ring is reached at the end", graph("05 51 14 42 23 36 60").smallestHole(), 7);
        due("a triangle beside a ring of four", graph("01 12 20 34 45 56 63").smallestHole(), 4);
    }

    private static void neatUntilTheLastPair() {
        ChordalDesk desk = graph("01 12 23 34 45 56");
        due("before the last pair", desk.neat(), true);
        desk.join(6, 0, true);
        due("with the last pair", desk.neat(), false);
        desk.join(6, 0, false);
        due("without it again", desk.neat(), true);
    }

    private static void easyAtTheEdges() {
        due("two neighbours that are not joined", graph("01 02").easy(), 126);
        due("two neighbours that are joined", graph("01 02 12").easy(), ALL);
        due("six neighbours, one pair of them parted", fullWithout("05").easy(), 1 + 32);
        due("six neighbours, all joined", full().easy(), ALL);
    }

    // Promises 1 to 5

    private static void newObject() {
        for (int v = 0; v < N; v++) {
            due("neighbours(" + v + ")", nothing().neighbours(v), 0);
        }
        for (int set = 0; set <= ALL; set++) {
            due("clique(" + set + ")", nothing().clique(set), Integer.bitCount(set) < 2);
        }
        int[] want = {0, 1, ALL, 0, 1, 7, 7, 1, 5040, NO_HOLE, 21, 0};
        for (int question = 0; question < want.length; question++) {
            due("question " + question, answer(nothing(), question), want[question]);
        }
        due("NONE", ChordalDesk.NONE, -1);
    }

    private static void newObjectBesideAnother() {
        ChordalDesk before = nothing();
        ChordalDesk other = full();
        due("joins of the earlier one", before.joins(), 0);
        due("joins of a later one", nothing().joins(), 0);
        due("joins of the other", other.joins(), 21);
        before.join(1, 2, true);
        other.join(1, 2, false);
        due("the earlier one holds its own pair", before.neighbours(1), 4);
        due("the other one has parted its own", other.neighbours(1), ALL - 2 - 4);
    }

    private static void joinTwice() {
        ChordalDesk desk = nothing();
        due("first", desk.join(2, 5, true), true);
        int[] once = allNeighbours(desk);
        due("neighbours(2)", desk.neighbours(2), 32);
        due("neighbours(5)", desk.neighbours(5), 4);
        due("again", desk.join(2, 5, true), true);
        dueUnchanged("joining again", desk, once);
        due("again, turned", desk.join(5, 2, true), true);
        dueUnchanged("joining again, turned", desk, once);
        due("joins", desk.joins(), 1);
        ChordalDesk all = full();
        int[] before = allNeighbours(all);
        change(all, "01 10 56 65 30", true);
        dueUnchanged("joining in a full graph", all, before);
    }

    private static void partTwice() {
        ChordalDesk desk = nothing();
        due("first", desk.join(2, 5, false), true);
        dueUnchanged("parting in an empty graph", desk, new int[N]);
        due("turned", desk.join(5, 2, false), true);
        dueUnchanged("parting in an empty graph, turned", desk, new int[N]);
        ChordalDesk all = fullWithout("25");
        int[] before = allNeighbours(all);
        change(all, "25", false);
        dueUnchanged("parting what is parted", all, before);
        change(all, "52", false);
        dueUnchanged("parting what is parted, turned", all, before);
        due("joins", all.joins(), 20);
    }

    private static void joinWithItself() {
        for (int v = 0; v < N; v++) {
            for (boolean on : new boolean[] {true, false}) {
                due("join(" + v + ", " + v + ", " + on + ")", nothing().join(v, v, on), false);
                due("join(" + v + ", " + v + ", " + on + ") when all is joined", full().join(v, v, on), false);
            }
        }
    }

    private static void joinRefused(int[] wrongOnes) {
        for (int w : wrongOnes) {
            for (int v = 0; v < N; v++) {
                for (boolean on : new boolean[] {true, false}) {
                    due("join(" + v + ", " + w + ", " + on + ")", nothing().join(v, w, on), false);
                    due("join(" + w + ", " + v + ", " + on + ")", nothing().join(w, v, on), false);
                    due("join(" + v + ", " + w + ", " + on + ") when all is joined", full().join(v, w, on), false);
                    due("join(" + w + ", " + v + ", " + on + ") when all is joined", full().join(w, v, on), false);
                }
            }
        }
    }

    private static void joinOfTwoWrong() {
        for (int a : TOO_SMALL) {
            for (int b : TOO_LARGE) {
                due("join(" + a + ", " + b + ")", nothing().join(a, b, true), false);
                due("join(" + b + ", " + a + ")", full().join(b, a, false), false);
            }
            due("join(" + a + ", " + a + ")", nothing().join(a, a, true), false);
        }
        for (int b : TOO_LARGE) {
            due("join(" + b + ", " + b + ")", nothing().join(b, b, true), false);
            due("join(7, " + b + ")", nothing().join(7, b, true), false);
        }
    }

    private static void refusedJoinChangesNothing() {
        for (boolean on : new boolean[] {true, false}) {
            for (ChordalDesk desk : new ChordalDesk[] {nothing(), graph("01 12 20 34 56"), full()}) {
                int[] before = allNeighbours(desk);
                for (int v = 0; v < N; v++) {
                    desk.join(v, v, on);
                    dueUnchanged("join(" + v + ", " + v + ", " + on + ")", desk, before);
                }
                for (int w : new int[] {-1, 7, 31, 32, 33, 38, -26, -31, -32}) {
                    desk.join(2, w, on);
                    dueUnchanged("join(2, " + w + ", " + on + ")", desk, before);
                    desk.join(w, 2, on);
                    dueUnchanged("join(" + w + ", 2, " + on + ")", desk, before);
                }
                due("the pairs, as often", desk.joins(), countOf(before));
            }
        }
    }

    private static int countOf(int[] neighbours) {
        int ends = 0;
        for (int set : neighbours) {
            ends += Integer.bitCount(set);
        }
        return ends / 2;
    }

    private static void noNeighbours(int[] wrongOnes) {
        for (int w : wrongOnes) {
            due("neighbours(" + w + "), nothing joined", nothing().neighbours(w), 0);
            due("neighbours(" + w + "), all joined", full().neighbours(w), 0);
        }
    }

    private static void neighboursNoneAndAll() {
        for (int v = 0; v < N; v++) {
            due("neighbours(" + v + "), nothing joined", nothing().neighbours(v), 0);
            due("neighbours(" + v + "), all joined", full().neighbours(v), ALL - (1 << v));
        }
    }

    private static void joinsNoneOneAll() {
        due("nothing joined", nothing().joins(), 0);
        due("the first pair", graph("01").joins(), 1);
        due("the last pair", graph("65").joins(), 1);
        due("all but one", fullWithout("06").joins(), 20);
        due("all", full().joins(), 21);
        due("each pair told both ways", graph("01 10 12 21 20 02").joins(), 3);
    }

    private static void notAClique(int[] wrongOnes) {
        for (int set : wrongOnes) {
            due("clique(" + set + "), nothing joined", nothing().clique(set), false);
            due("clique(" + set + "), all joined", full().clique(set), false);
        }
    }

    private static void tooLargeForAClique() {
        int[] sets = new int[32 - N + 4];
        for (int bit = N; bit < 32; bit++) {
            sets[bit - N] = 1 << bit;
        }
        sets[32 - N] = 129;
        sets[33 - N] = 255;
        sets[34 - N] = 65536 + ALL;
        sets[35 - N] = Integer.MAX_VALUE;
        notAClique(sets);
    }

    private static void leastAndGreatestSet() {
        due("clique(0)", nothing().clique(0), true);
        due("clique(127), nothing joined", nothing().clique(127), false);
        due("clique(127), all joined", full().clique(127), true);
        due("clique(126), all joined", full().clique(126), true);
        due("clique(1)", nothing().clique(1), true);
    }

    // Promises 6 to 8

    private static void neatAtTheEdges() {
        due("nothing joined", nothing().neat(), true);
        due("one pair joined", graph("06").neat(), true);
        due("all joined", full().neat(), true);
        due("all but one pair", fullWithout("06").neat(), true);
        due("all but two pairs of one vertex", fullWithout("06 05").neat(), true);
        due("all but two pairs apart", fullWithout("06 15").neat(), false);
        due("all but three pairs two by two", fullWithout("01 12 02").neat(), true);
    }

    private static void easyOfAll() {
        due("nothing joined", nothing().easy(), ALL);
        due("one pair joined", graph("06").easy(), ALL);
        due("all joined", full().easy(), ALL);
        due("all but one pair", fullWithout("06").easy(), 65);
        due("all but two pairs apart", fullWithout("06 15").easy(), 0);
        due("a ring of seven", ring(7).easy(), 0);
        due("a path: its ends alone, not those easy later", graph("01 12 23 34 45 56").easy(), 65);
    }

    private static void coreAtTheEdges() {
        due("nothing joined", nothing().core(), 0);
        due("one pair joined", graph("06").core(), 0);
        due("all joined", full().core(), 0);
        due("all but one pair", fullWithout("06").core(), 0);
        due("all but two pairs apart", fullWithout("06 15").core(), ALL);
        due("a ring of seven", ring(7).core(), ALL);
        due("a ring of four", ring(4).core(), 15);
    }

    private static void easyInWhatIsLeft() {
        due("a path", graph("01 12 23 34 45 56").core(), 0);
        due("a path from the middle", graph("60 05 51 14 42 23").core(), 0);
        due("a star", graph("01 02 03 04 05 06").core(), 0);
        due("a ring of four with a tail", graph("01 12 23 30 34 45 56").core(), 15);
        due("the tail at the first ones", graph("34 45 56 63 32 21 10").core(), 120);
    }

    private static void untilThereIsNone() {
        due("two rings with a shared vertex", graph("01 12 23 30 34 45 56 63").core(), ALL);
        due("one of the two is closed", graph("01 12 23 30 02 34 45 56 63").core(), 120);
        due("both are closed", graph("01 12 23 30 02 34 45 56 63 35").core(), 0);
        due("a triangle tied to a ring", graph("01 12 23 30 34 45 53").core(), 15);
        due("a path between two vertices of a ring", graph("01 12 23 34 40 05 56 62").core(), ALL);
    }

    private static void coreInEveryOrder() {
        String[] graphs = {"01 12 23 34 45 56", "01 12 23 30 34 45 56", "01 12 23 30 34 45 53", "01 12 23 34 40 25",
            "01 12 20 23 34 42 45", "01 12 23 30 04 15 26"};
        int[] want = {0, 15, 15, 31, 0, 15};
        for (int number = 0; number < graphs.length; number++) {
            for (int[] names : allNamings()) {
                ChordalDesk desk = graph(renamed(graphs[number], names));
                int set = 0;
                for (int v = 0; v < N; v++) {
                    set |= (want[number] >> v & 1) << names[v];
                }
                due("core of " + graphs[number] + " named " + Arrays.toString(names), desk.core(), set);
            }
        }
    }

    private static String renamed(String pairs, int[] names) {
        StringBuilder text = new StringBuilder();
        for (char c : pairs.toCharArray()) {
            text.append(c == ' ' ? " " : "" + names[c - '0']);
        }
        return text.toString();
    }

    private static List<int[]> allNamings() {
        List<int[]> namings = new ArrayList<>();
        namings.add(new int[0]);
        for (int length = 0; length < N; length++) {
            List<int[]> longer = new ArrayList<>();
            for (int[] naming : namings) {
                for (int name = 0; name < N; name++) {
                    int one = name;
                    if (Arrays.stream(naming).noneMatch(other -> other == one)) {
                        int[] more = Arrays.copyOf(naming, length + 1);
                        more[length] = name;
                        longer.add(more);
                    }
                }
            }
            namings = longer;
        }
        return namings;
    }

    // Promises 9 to 13

    private static void largestCliqueAtTheEdges() {
        due("nothing joined", nothing().largestClique(), 1);
        due("the first pair", graph("01").largestClique(), 2);
        due("the last pair", graph("56").largestClique(), 2);
        due("a ring of seven", ring(7).largestClique(), 2);
        due("all but one pair", fullWithout("06").largestClique(), 6);
        due("all but three pairs apart", fullWithout("01 23 45").largestClique(), 4);
        due("all joined", full().largestClique(), 7);
    }

    private static void fullCliquesAtTheEdges() {
        due("nothing joined: each vertex, not the empty set", nothing().fullCliques(), 7);
        due("one pair: it and the others", graph("06").fullCliques(), 6);
        due("a triangle: not its pairs", graph("04 46 60").fullCliques(), 5);
        due("a ring of seven", ring(7).fullCliques(), 7);
        due("all but one pair", fullWithout("06").fullCliques(), 2);
        due("all but three pairs apart", fullWithout("01 23 45").fullCliques(), 8);
        due("the most there can be", fullWithout("01 23 45 56 64").fullCliques(), 12);
        due("all joined", full().fullCliques(), 1);
    }

    private static void largestApartAtTheEdges() {
        due("nothing joined", nothing().largestApart(), 7);
        due("the first pair", graph("01").largestApart(), 6);
        due("the last pair", graph("56").largestApart(), 6);
        due("a ring of seven", ring(7).largestApart(), 3);
        due("all but one pair", fullWithout("06").largestApart(), 2);
        due("all but three pairs two by two", fullWithout("01 12 02").largestApart(), 3);
        due("all joined", full().largestApart(), 1);
    }

    private static void coloursAtTheEdges() {
        due("nothing joined", nothing().colours(), 1);
        due("one pair", graph("06").colours(), 2);
        due("a ring of six", ring(6).colours(), 2);
        due("a ring of seven", ring(7).colours(), 3);
        due("more than the largest clique", graph("01 12 23 34 40 50 51 52 53 54 65").colours(), 4);
        due("all but one pair", fullWithout("06").colours(), 6);
        due("all but two pairs of one vertex", fullWithout("06 05").colours(), 6);
        due("all but three pairs apart", fullWithout("01 23 45").colours(), 4);
        due("all joined", full().colours(), 7);
    }

    private static void ordersAtTheEdges() {
        due("nothing joined", nothing().orders(), 5040);
        due("one pair", graph("06").orders(), 5040);
        // Of the two parted vertices one must come first of all.
        due("all but one pair", fullWithout("06").orders(), 2 * 720);
        due("all joined", full().orders(), 5040);
        // A vertex with two parted neighbours may not come before both.
        due("three in a row", graph("06 63").orders(), 3360);
        due("a path of seven", graph("01 12 23 34 45 56").orders(), 64);
    }

    private static void noOrder() {
        for (int length = 4; length <= N; length++) {
            due("a ring of " + length, ring(length).orders(), 0);
        }
        due("all but two pairs apart", fullWithout("06 15").orders(), 0);
        due("a ring of four with a tail", graph("01 12 23 30 34 45 56").orders(), 0);
    }

    // Promises 14 to 16

    private static void noSmallestHole() {
        due("nothing joined", nothing().smallestHole(), ChordalDesk.NONE);
        due("all joined", full().smallestHole(), ChordalDesk.NONE);
        due("all but one pair", fullWithout("06").smallestHole(), ChordalDesk.NONE);
        due("a triangle", ring(3).smallestHole(), ChordalDesk.NONE);
        due("a path", graph("01 12 23 34 45 56").smallestHole(), ChordalDesk.NONE);
        ChordalDesk desk = ring(4);
        desk.join(0, 2, true);
        due("a hole that was closed", desk.smallestHole(), ChordalDesk.NONE);
        desk.join(0, 2, false);
        due("opened again", desk.smallestHole(), 4);
        desk.join(0, 1, false);
        due("a hole that was parted", desk.smallestHole(), ChordalDesk.NONE);
        due("NONE", ChordalDesk.NONE, -1);
    }

    private static void smallestHoleOfEachSize() {
        for (int length = 4; length <= N; length++) {
            due("a ring of " + length, ring(length).smallestHole(), length);
        }
        due("four, the last ones", graph("34 45 56 63").smallestHole(), 4);
        due("five, the last ones", graph("23 34 45 56 62").smallestHole(), 5);
        due("six, the last ones", graph("12 23 34 45 56 61").smallestHole(), 6);
    }

    private static void smallestOfSeveralHoles() {
        due("four and five, the smaller one last", graph("01 12 23 34 40 35 56 64").smallestHole(), 4);
        due("four and five, the smaller one first", graph("01 12 23 30 34 45 56 60").smallestHole(), 4);
        due("five and four with shared sides", graph("01 12 23 34 45 56 60 03").smallestHole(), 4);
        due("two of five with shared sides", graph("01 12 23 34 40 25 56 60").smallestHole(), 5);
        due("two of four", graph("01 12 23 30 34 45 56 63").smallestHole(), 4);
    }

    private static void neatJoinsNotJoinedNow() {
        due("all joined", full().neatJoins(), 0);
        due("all but one pair", fullWithout("06").neatJoins(), 1);
        due("all but two pairs of one vertex", fullWithout("06 05").neatJoins(), 2);
        due("nothing joined", nothing().neatJoins(), 21);
        due("one pair joined", graph("06").neatJoins(), 20);
        due("a triangle, joined pairs do not count", graph("01 12 20").neatJoins(), 18);
    }

    private static void neatJoinsOfNeatGraph() {
        // Only the two ends of the four in a row would close a ring.
        due("four in a row", graph("01 12 23").neatJoins(), 17);
        due("seven in a row", graph("01 12 23 34 45 56").neatJoins(), 5);
        due("two triangles: a single pair between them closes no ring", graph("01 12 20 34 45 53").neatJoins(), 15);
    }

    private static void neatJoinsJustOne() {
        due("a ring of four", ring(4).neatJoins(), 2);
        due("a ring of five needs two", ring(5).neatJoins(), 0);
        due("a ring of seven needs four", ring(7).neatJoins(), 0);
        due("all but two pairs apart", fullWithout("06 15").neatJoins(), 2);
        due("all but three pairs apart need two", fullWithout("01 23 45").neatJoins(), 0);
        due("two rings need one each", graph("01 12 23 30 34 45 56 63").neatJoins(), 0);
        due("two against three: the two alone", graph("02 03 04 12 13 14").neatJoins(), 1);
    }

    private static void lookingChangesNothing(boolean justOne) {
        for (ChordalDesk desk : new ChordalDesk[] {nothing(), full(), fullWithout("06"), fullWithout("06 15"),
            fullWithout("01 23 45"), ring(4), ring(5), ring(6), ring(7)}) {
            int[] before = allNeighbours(desk);
            int first = justOne ? desk.neatJoins() : desk.fill();
            dueUnchanged("looking", desk, before);
            due("the same again", justOne ? desk.neatJoins() : desk.fill(), first);
        }
    }

    private static void fillNone() {
        due("nothing joined", nothing().fill(), 0);
        due("one pair", graph("06").fill(), 0);
        due("a triangle", ring(3).fill(), 0);
        due("a path", graph("01 12 23 34 45 56").fill(), 0);
        due("all but one pair", fullWithout("06").fill(), 0);
        due("all joined", full().fill(), 0);
    }

    private static void fillOne() {
        due("a ring of four", ring(4).fill(), 1);
        due("a ring of four, the last ones", graph("36 64 45 53").fill(), 1);
        due("all but two pairs apart", fullWithout("06 15").fill(), 1);
        due("two against five", graph("02 03 04 05 06 12 13 14 15 16").fill(), 1);
        due("a ring of five with one pair across", graph("01 12 23 34 40 02").fill(), 1);
    }

    private static void fillTwo() {
        due("a ring of five", ring(5).fill(), 2);
        due("a ring of five, the last ones", graph("26 63 35 54 42").fill(), 2);
        due("two rings with a shared vertex", graph("01 12 23 30 34 45 56 63").fill(), 2);
        due("all but three pairs apart", fullWithout("01 23 45").fill(), 2);
        due("a ring of six with one pair across", graph("01 12 23 34 45 50 03").fill(), 2);
    }

    private static void fillThree() {
        due("a ring of six", ring(6).fill(), 3);
        due("three against three", graph("03 04 05 13 14 15 23 24 25").fill(), 3);
        due("three against four", graph("03 04 05 06 13 14 15 16 23 24 25 26").fill(), 3);
        due("a ring of seven with one pair across", graph("01 12 23 34 45 56 60 02").fill(), 3);
    }

    private static void fillFour() {
        due("a ring of seven", ring(7).fill(), 3);
        due("a ring of seven in another order", graph("03 36 62 25 51 14 40").fill(), 3);
    }

    // The 512 calls

    private static int answer(ChordalDesk desk, int question) {
        return switch (question) {
            case 0 -> desk.joins();
            case 1 -> desk.neat() ? 1 : 0;
            case 2 -> desk.easy();
            case 3 -> desk.core();
            case 4 -> desk.largestClique();
            case 5 -> desk.fullCliques();
            case 6 -> desk.largestApart();
            case 7 -> desk.colours();
            case 8 -> desk.orders();
            case 9 -> desk.smallestHole();
            case 10 -> desk.neatJoins();
            case 11 -> desk.fill();
            case 12 -> desk.neighbours(5);
            case 13 -> desk.clique(48) ? 1 : 0;
            default -> desk.join(0, 5, true) ? 1 : 0;
        };
    }

    private static void lastOfMixedCalls() {
        for (int question = 0; question < RING_OF_SIX.length; question++) {
            ChordalDesk desk = nothing();
            int calls = 0;
            while (calls < MOST_CALLS - 1 - 21) {
                if (calls % 2 == 0) {
                    desk.join(calls % 9 - 1, calls / 2 % 8, calls % 5 != 0);
                } else {
                    answer(desk, calls / 2 % 14);
                }
                calls++;
            }
            for (int a = 0; a < N; a++) {
                for (int b = 0; b < a; b++) {
                    boolean inRing = a < 6 && (a - b == 1 || a - b == 5);
                    desk.join(a, b, inRing);
                    calls++;
                }
            }
            due("calls before the last one", calls, MOST_CALLS - 1);
            due("question " + question, answer(desk, question), RING_OF_SIX[question]);
        }
    }

    private static void sameCallToTheLast() {
        for (int question = 0; question < RING_OF_SIX.length; question++) {
            ChordalDesk desk = ring(6);
            for (int call = 6; call < MOST_CALLS; call++) {
                due("question " + question + " as call " + (call + 1), answer(desk, question), RING_OF_SIX[question]);
            }
        }
    }

    private static void refusedCallsToTheLast() {
        ChordalDesk desk = ring(6);
        int calls = 6;
        while (calls < MOST_CALLS - RING_OF_SIX.length) {
            switch (calls % 4) {
                case 0 -> due("join(6, 7) as call " + (calls + 1), desk.join(6, 7, true), false);
                case 1 -> due("join(3, 3) as call " + (calls + 1), desk.join(3, 3, true), false);
                case 2 -> due("neighbours(7) as call " + (calls + 1), desk.neighbours(7), 0);
                default -> due("clique(128) as call " + (calls + 1), desk.clique(128), false);
            }
            calls++;
        }
        for (int question = 0; question < RING_OF_SIX.length; question++) {
            due("question " + question + " at the end", answer(desk, question), RING_OF_SIX[question]);
        }
    }

    private static void joinsToTheLast() {
        ChordalDesk desk = nothing();
        for (int call = 0; call < MOST_CALLS - 2; call += 2) {
            boolean on = call % 4 == 0;
            due("join(0, 6, " + on + ") as call " + (call + 1), desk.join(0, 6, on), true);
            due("neighbours(6) as call " + (call + 2), desk.neighbours(6), on ? 1 : 0);
        }
        due("join(0, 6, true) as call 511", desk.join(0, 6, true), true);
        due("joins as call 512", desk.joins(), 1);
    }
}
