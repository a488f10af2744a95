// Each promise of the document by itself: ordinary inputs, the edges it names, and wrong inputs.
public final class PromiseTests {
    private static final int[] WRONG_GRAPHS = {-1, 2, 3, Integer.MIN_VALUE, Integer.MAX_VALUE};
    private static int wrong = 0;

    public static void main(String[] args) {
        promise1();
        promise2();
        promise2Refuses();
        promise3();
        promise4();
        promise5();
        promise6();
        promise6Refuses();
        promise7();
        promise8();
        promise9();
        promise10();
        promise10Refuses();
        questionsChangeNothing();
        System.out.println(wrong == 0 ? "all promises hold" : wrong + " answers are not as due");
        if (wrong != 0) {
            System.exit(1);
        }
    }

    private static void due(String call, long got, long want) {
        if (got != want) {
            wrong++;
            System.out.println(call + " answered " + got + ", due is " + want);
        }
    }

    private static int[] wrongPoints(int n) {
        return new int[] {-1, n, n + 1, 7, 49, Integer.MIN_VALUE, Integer.MAX_VALUE};
    }

    /** Every colour of both graphs, so that two states can be compared. */
    private static String state(TwinGraphs x, int n) {
        StringBuilder all = new StringBuilder();
        for (int graph = 0; graph < 2; graph++) {
            for (int a = 0; a < n; a++) {
                for (int b = 0; b < n; b++) {
                    all.append(x.colour(graph, a, b)).append(' ');
                }
            }
        }
        return all.toString();
    }

    private static void sameState(String what, TwinGraphs x, int n, String before) {
        String after = state(x, n);
        if (!after.equals(before)) {
            wrong++;
            System.out.println(what + " changed the state from " + before + " to " + after);
        }
    }

    private static void paintPoints(TwinGraphs x, int graph, int... colours) {
        for (int a = 0; a < colours.length; a++) {
            x.paint(graph, a, a, colours[a]);
        }
    }

    private static void paintPath(TwinGraphs x, int graph, int colour, int... path) {
        for (int i = 0; i + 1 < path.length; i++) {
            x.paint(graph, path[i], path[i + 1], colour);
        }
    }

    /** A graph on four points that only leaves every point where it is when laid upon itself. */
    private static TwinGraphs lopsided() {
        TwinGraphs x = new TwinGraphs(4);
        paintPoints(x, 0, 1, 2, 3, 1);
        x.paint(0, 0, 1, 1);
        x.paint(0, 0, 2, 2);
        x.paint(0, 0, 3, 3);
        x.paint(0, 1, 2, 3);
        x.paint(0, 1, 3, 0);
        x.paint(0, 2, 3, 1);
        return x;
    }

    private static void promise1() {
        int[] asked = {1, 2, 3, 4, 5, 6, 7, 0, -1, -7, Integer.MIN_VALUE, 8, 9, 100, Integer.MAX_VALUE};
        int[] given = {1, 2, 3, 4, 5, 6, 7, 1, 1, 1, 1, 7, 7, 7, 7};
        int[] orders = {0, 1, 2, 6, 24, 120, 720, 5040};
        for (int i = 0; i < asked.length; i++) {
            TwinGraphs x = new TwinGraphs(asked[i]);
            int n = given[i];
            String made = "TwinGraphs(" + asked[i] + ") ";
            for (int graph = 0; graph < 2; graph++) {
                for (int a = 0; a < n; a++) {
                    for (int b = 0; b < n; b++) {
                        due(made + "colour(" + graph + ", " + a + ", " + b + ")", x.colour(graph, a, b), 0);
                    }
                }
                due(made + "colour past the last point", x.colour(graph, n, 0), -1);
                due(made + "symmetries(" + graph + ")", x.symmetries(graph), orders[n]);
                due(made + "mirror of the last point", x.mirror(graph, n - 1), 0);
                due(made + "leastForm(" + graph + ")", x.leastForm(graph), 0);
            }
            due(made + "layings()", x.layings(), orders[n]);
            due(made + "laid(last)", x.laid(n - 1), n - 1);
        }
    }

    private static void promise2() {
        TwinGraphs x = new TwinGraphs(3);
        due("paint(0, 0, 1, 2)", x.paint(0, 0, 1, 2), 0);
        due("paint(0, 0, 1, 3)", x.paint(0, 0, 1, 3), 2);
        due("paint(0, 1, 0, 1), the pair the other way round", x.paint(0, 1, 0, 1), 3);
        due("colour(0, 0, 1)", x.colour(0, 0, 1), 1);
        due("paint(0, 2, 2, 3), a point", x.paint(0, 2, 2, 3), 0);
        due("paint(0, 2, 2, 3) again", x.paint(0, 2, 2, 3), 3);
        due("paint(1, 2, 1, 2)", x.paint(1, 2, 1, 2), 0);
        sameState("painting three pairs alone", x, 3, "0 1 0 1 0 0 0 0 3 0 0 0 0 0 2 0 2 0 ");

        int[] given = {4, 5, 6, 7, -1, -2, -3, -4, Integer.MAX_VALUE, Integer.MIN_VALUE, 1 << 30};
        int[] kept = {0, 1, 2, 3, 3, 2, 1, 0, 3, 0, 0};
        for (int i = 0; i < given.length; i++) {
            x.paint(0, 0, 2, 1);
            due("paint(0, 0, 2, " + given[i] + ")", x.paint(0, 0, 2, given[i]), 1);
            due("colour after paint with " + given[i], x.colour(0, 2, 0), kept[i]);
        }
    }

    private static void promise2Refuses() {
        for (int n = 1; n <= 7; n++) {
            TwinGraphs x = new TwinGraphs(n);
            x.paint(0, 0, n - 1, 2);
            x.paint(1, n - 1, n - 1, 1);
            String before = state(x, n);
            for (int graph : WRONG_GRAPHS) {
                due("paint(" + graph + ", 0, 0, 3)", x.paint(graph, 0, 0, 3), -1);
            }
            for (int point : wrongPoints(n)) {
                for (int graph = 0; graph < 2; graph++) {
                    due("paint(" + graph + ", " + point + ", 0, 3)", x.paint(graph, point, 0, 3), -1);
                    due("paint(" + graph + ", 0, " + point + ", 3)", x.paint(graph, 0, point, 3), -1);
                    due("paint(" + graph + ", " + point + " twice, 3)", x.paint(graph, point, point, 3), -1);
                }
            }
            sameState("a refused paint on " + n + " points", x, n, before);
        }
    }

    private static void promise3() {
        TwinGraphs x = lopsided();
        due("colour(0, 1, 2)", x.colour(0, 1, 2), 3);
        due("colour(0, 2, 1)", x.colour(0, 2, 1), 3);
        due("colour(0, 3, 0)", x.colour(0, 3, 0), 3);
        due("colour(0, 2, 2)", x.colour(0, 2, 2), 3);
        due("colour(0, 1, 3)", x.colour(0, 1, 3), 0);
        due("colour(1, 1, 2)", x.colour(1, 1, 2), 0);
        for (int graph : WRONG_GRAPHS) {
            due("colour(" + graph + ", 0, 0)", x.colour(graph, 0, 0), -1);
        }
        for (int point : wrongPoints(4)) {
            due("colour(0, " + point + ", 1)", x.colour(0, point, 1), -1);
            due("colour(1, 1, " + point + ")", x.colour(1, 1, point), -1);
        }
    }

    private static void promise4() {
        TwinGraphs x = new TwinGraphs(4);
        paintPath(x, 0, 2, 0, 1, 2, 3);
        due("layings() of a path upon nothing", x.layings(), 0);
        paintPath(x, 1, 2, 2, 0, 3, 1);
        due("layings() of a path upon a path", x.layings(), 2);
        x.paint(0, 0, 0, 1);
        due("layings() with one end marked above", x.layings(), 0);
        x.paint(1, 1, 1, 1);
        due("layings() with one end marked in both", x.layings(), 1);
        x.paint(1, 0, 3, 3);
        due("layings() with another colour below", x.layings(), 0);

        TwinGraphs one = new TwinGraphs(1);
        due("layings() on one point", one.layings(), 1);
        one.paint(1, 0, 0, 2);
        due("layings() of one point upon another colour", one.layings(), 0);
    }

    private static void promise5() {
        TwinGraphs x = new TwinGraphs(4);
        paintPoints(x, 0, 0, 1, 2, 3);
        paintPoints(x, 1, 3, 0, 1, 2);
        // Where a point is laid, not which point is laid on it: the two differ here.
        int[] where = {1, 2, 3, 0};
        for (int a = 0; a < 4; a++) {
            due("laid(" + a + ") by point colours", x.laid(a), where[a]);
        }
        for (int point : wrongPoints(4)) {
            due("laid(" + point + ")", x.laid(point), -1);
        }
        x.paint(1, 0, 0, 2);
        for (int a = 0; a < 4; a++) {
            due("laid(" + a + ") without a laying", x.laid(a), -1);
        }

        TwinGraphs path = new TwinGraphs(5);
        paintPath(path, 0, 1, 0, 1, 2, 3, 4);
        paintPath(path, 1, 1, 4, 0, 2, 3, 1);
        // Two layings: 4 0 2 3 1 and 1 3 2 0 4, of which the second is the lesser.
        int[] least = {1, 3, 2, 0, 4};
        for (int a = 0; a < 5; a++) {
            due("laid(" + a + ") of a path", path.laid(a), least[a]);
        }
    }

    private static void promise6() {
        TwinGraphs x = new TwinGraphs(4);
        paintPath(x, 0, 1, 0, 1, 2, 3);
        paintPath(x, 1, 1, 1, 2, 0, 3);
        // Neither laying turned back is a laying, so asking the wrong way round shows.
        int[][] layings = {{1, 2, 0, 3}, {3, 0, 2, 1}};
        for (int a = 0; a < 4; a++) {
            for (int b = 0; b < 4; b++) {
                for (int c = 0; c < 4; c++) {
                    for (int d = 0; d < 4; d++) {
                        int want = 0;
                        for (int[] f : layings) {
                            want |= f[a] == b && f[c] == d ? 1 : 0;
                        }
                        due("canLay(" + a + ", " + b + ", " + c + ", " + d + ")", x.canLay(a, b, c, d), want);
                    }
                }
            }
        }
        TwinGraphs empty = new TwinGraphs(7);
        due("canLay of one point on two", empty.canLay(5, 1, 5, 2), 0);
        due("canLay of two points on one", empty.canLay(1, 5, 2, 5), 0);
        due("canLay of the same twice", empty.canLay(5, 1, 5, 1), 1);
        due("canLay of the last orders", empty.canLay(0, 6, 6, 0), 1);
        empty.paint(0, 0, 0, 1);
        due("canLay without a laying", empty.canLay(1, 1, 2, 2), 0);
    }

    private static void promise6Refuses() {
        TwinGraphs x = new TwinGraphs(4);
        for (int point : wrongPoints(4)) {
            due("canLay(" + point + ", 0, 1, 1)", x.canLay(point, 0, 1, 1), -1);
            due("canLay(0, " + point + ", 1, 1)", x.canLay(0, point, 1, 1), -1);
            due("canLay(0, 0, " + point + ", 1)", x.canLay(0, 0, point, 1), -1);
            due("canLay(0, 0, 1, " + point + ")", x.canLay(0, 0, 1, point), -1);
            due("canLay(0, 0, 0, " + point + "), which could not be anyway", x.canLay(0, 0, 0, point), -1);
        }
        x.paint(0, 0, 0, 1);
        due("canLay(0, 0, 0, 4) without a laying", x.canLay(0, 0, 0, 4), -1);
    }

    private static void promise7() {
        TwinGraphs x = new TwinGraphs(6);
        paintPath(x, 0, 1, 0, 1, 2, 3, 4, 5);
        due("symmetries(0) of a path", x.symmetries(0), 2);
        due("symmetries(1) of nothing", x.symmetries(1), 720);
        x.paint(0, 5, 0, 1);
        due("symmetries(0) of a ring", x.symmetries(0), 12);
        x.paint(0, 5, 0, 2);
        due("symmetries(0) of a ring with one pair apart", x.symmetries(0), 2);
        paintPoints(x, 1, 0, 0, 0, 1, 1, 3);
        due("symmetries(1) by point colours", x.symmetries(1), 12);
        due("symmetries(0) of a graph with no turn", lopsided().symmetries(0), 1);
        for (int graph : WRONG_GRAPHS) {
            due("symmetries(" + graph + ")", x.symmetries(graph), -1);
        }
    }

    private static void promise8() {
        TwinGraphs x = new TwinGraphs(5);
        paintPath(x, 0, 1, 4, 0, 2, 3, 1);
        // The path turns round: 4 and 1, 0 and 3 change places, 2 stays.
        int[] turned = {0, 1, 2, 0, 1};
        for (int a = 0; a < 5; a++) {
            due("mirror(0, " + a + ") of a path", x.mirror(0, a), turned[a]);
            due("mirror(1, " + a + ") of nothing", x.mirror(1, a), 0);
        }
        x.paint(0, 4, 4, 2);
        for (int a = 0; a < 5; a++) {
            due("mirror(0, " + a + ") of a path with a marked end", x.mirror(0, a), a);
        }
        for (int graph : WRONG_GRAPHS) {
            due("mirror(" + graph + ", 0)", x.mirror(graph, 0), -1);
        }
        for (int point : wrongPoints(5)) {
            due("mirror(0, " + point + ")", x.mirror(0, point), -1);
            due("mirror(1, " + point + ")", x.mirror(1, point), -1);
        }
    }

    private static void promise9() {
        TwinGraphs one = new TwinGraphs(1);
        one.paint(1, 0, 0, 3);
        due("leastForm(0) of one point", one.leastForm(0), 0);
        due("leastForm(1) of one point", one.leastForm(1), 3);

        TwinGraphs two = new TwinGraphs(2);
        paintPoints(two, 0, 3, 1);
        two.paint(0, 0, 1, 2);
        due("leastForm(0) of two points, the row 1 2 3", two.leastForm(0), 27);

        TwinGraphs three = new TwinGraphs(3);
        paintPoints(three, 1, 1, 2, 3);
        three.paint(1, 0, 1, 3);
        three.paint(1, 1, 2, 2);
        // Point 0 comes first by its colour, then 2 by its pair with 0: the row 1 03 322.
        due("leastForm(1) of three points", three.leastForm(1), 1274);

        TwinGraphs full = new TwinGraphs(7);
        for (int a = 0; a < 7; a++) {
            for (int b = 0; b <= a; b++) {
                full.paint(0, a, b, 3);
            }
        }
        due("leastForm(0) of 28 threes", full.leastForm(0), 72057594037927935L);
        full.paint(0, 3, 3, 0);
        due("leastForm(0) with one point 0", full.leastForm(0), 72057594037927935L - 3 * (1L << 54));
        due("leastForm(1) beside it", full.leastForm(1), 0);
        for (int graph : WRONG_GRAPHS) {
            due("leastForm(" + graph + ")", full.leastForm(graph), -1);
        }
    }

    private static void promise10() {
        TwinGraphs x = lopsided();
        x.paint(1, 1, 3, 2);
        due("copySwapped(1, 0, 2)", x.copySwapped(1, 0, 2), 0);
        String first = "1 1 2 3 1 2 3 0 2 3 3 1 3 0 1 1 ";
        String swapped = "3 3 2 1 3 2 1 0 2 1 1 3 1 0 3 1 ";
        sameState("copySwapped(1, 0, 2)", x, 4, first + swapped);
        due("copySwapped(1, 2, 0)", x.copySwapped(1, 2, 0), 0);
        sameState("copySwapped(1, 2, 0)", x, 4, first + swapped);
        due("copySwapped(1, 3, 3)", x.copySwapped(1, 3, 3), 0);
        sameState("copySwapped(1, 3, 3)", x, 4, first + first);
        x.copySwapped(1, 0, 2);
        due("copySwapped(0, 1, 1)", x.copySwapped(0, 1, 1), 0);
        sameState("copySwapped(0, 1, 1)", x, 4, swapped + swapped);
        due("copySwapped(0, 0, 2)", x.copySwapped(0, 0, 2), 0);
        sameState("copySwapped(0, 0, 2)", x, 4, first + swapped);
        x.paint(0, 1, 2, 0);
        due("colour(1, 1, 0), a copy of its own", x.colour(1, 1, 0), 3);
    }

    private static void promise10Refuses() {
        TwinGraphs x = lopsided();
        String before = state(x, 4);
        for (int graph : WRONG_GRAPHS) {
            due("copySwapped(" + graph + ", 0, 1)", x.copySwapped(graph, 0, 1), -1);
        }
        for (int point : wrongPoints(4)) {
            for (int graph = 0; graph < 2; graph++) {
                due("copySwapped(" + graph + ", " + point + ", 0)", x.copySwapped(graph, point, 0), -1);
                due("copySwapped(" + graph + ", 0, " + point + ")", x.copySwapped(graph, 0, point), -1);
                due("copySwapped(" + graph + ", " + point + " twice)", x.copySwapped(graph, point, point), -1);
            }
        }
        sameState("a refused copySwapped", x, 4, before);
    }

    private static void questionsChangeNothing() {
        TwinGraphs x = lopsided();
        x.copySwapped(1, 1, 3);
        String before = state(x, 4);
        for (int round = 0; round < 2; round++) {
            due("layings()", x.layings(), 1);
            due("laid(1)", x.laid(1), 3);
            due("canLay(1, 3, 3, 1)", x.canLay(1, 3, 3, 1), 1);
            due("symmetries(1)", x.symmetries(1), 1);
            due("mirror(1, 2)", x.mirror(1, 2), 2);
            due("leastForm(1) is leastForm(0)", x.leastForm(1), x.leastForm(0));
        }
        sameState("a question", x, 4, before);
    }
}
