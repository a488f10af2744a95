// The boundary cases that the document names in its promises, one test for each sentence.
public final class PromiseBoundaries {
    private static final long TWENTY_EIGHT_THREES = 72057594037927935L;

    public static void main(String[] args) {
        newObject();
        paintAndColour();
        layingsLaidAndCanLay();
        symmetriesAndMirror();
        leastForm();
        copySwapped();
        Checks.end();
    }

    private static void newObject() {
        Checks.sentence("Promise 1: points: n", PromiseBoundaries::pointsAreKept);
        Checks.sentence("Promise 1: less than 1 becomes 1", PromiseBoundaries::tooFewPoints);
        Checks.sentence("Promise 1: more than 7 becomes 7", PromiseBoundaries::tooManyPoints);
    }

    private static void paintAndColour() {
        Checks.sentence("Promise 2: Gives the pair {a, b} of the graph the colour",
            PromiseBoundaries::paintsOnePairAlone);
        Checks.sentence("Promise 2: (the point a if a = b)", PromiseBoundaries::paintsOnePointAlone);
        Checks.sentence("Promise 2: the colour colour & 3, from 0 to 3", PromiseBoundaries::paintsColoursInRange);
        Checks.sentence("Promise 2: the colour colour & 3, above 3", PromiseBoundaries::paintsColoursAboveThree);
        Checks.sentence("Promise 2: the colour colour & 3, below 0", PromiseBoundaries::paintsColoursBelowZero);
        Checks.sentence("Promise 2: Answers the colour it had before", PromiseBoundaries::answersTheColourBefore);
        Checks.sentence("Promise 2: or -1 if refused", PromiseBoundaries::paintRefuses);
        Checks.sentence("Promise 3: The colour of {a, b} in the graph", PromiseBoundaries::colourOfEveryPair);
        Checks.sentence("Promise 3: or -1 if refused", PromiseBoundaries::colourRefuses);
    }

    private static void layingsLaidAndCanLay() {
        Checks.sentence("Promise 4: How many layings there are: none", PromiseBoundaries::noLayings);
        Checks.sentence("Promise 4: How many layings there are: every order", PromiseBoundaries::everyOrderIsALaying);
        Checks.sentence("Promise 4: How many layings there are: one", PromiseBoundaries::oneLaying);
        Checks.sentence("Promise 5: -1 if refused", PromiseBoundaries::laidRefuses);
        Checks.sentence("Promise 5: or if there is no laying", PromiseBoundaries::laidWithoutALaying);
        Checks.sentence("Promise 6: 1 if some laying lays a on b and c on d", PromiseBoundaries::canLayInOneLaying);
        Checks.sentence("Promise 6: else 0", PromiseBoundaries::canLayOnlyApart);
        Checks.sentence("Promise 6: else 0 (there is no laying)", PromiseBoundaries::canLayWithoutALaying);
        Checks.sentence("Promise 6: -1 if refused", PromiseBoundaries::canLayRefuses);
        Checks.sentence("Promise 6: (c may be a, then it asks b = d too.)", PromiseBoundaries::canLayOnePointTwice);
    }

    private static void symmetriesAndMirror() {
        Checks.sentence("Promise 7: (at least 1)", PromiseBoundaries::atLeastOneSymmetry);
        Checks.sentence("Promise 7: layings of the graph upon itself", PromiseBoundaries::symmetriesOfEachGraph);
        Checks.sentence("Promise 7: or -1 if refused", PromiseBoundaries::symmetriesRefuses);
        Checks.sentence("Promise 8: The least point: the point itself", PromiseBoundaries::mirrorOnItself);
        Checks.sentence("Promise 8: The least point: 0", PromiseBoundaries::mirrorOnTheFirstPoint);
        Checks.sentence("Promise 8: The least point: between them", PromiseBoundaries::mirrorOnAPointBetween);
        Checks.sentence("Promise 8: or -1 if refused", PromiseBoundaries::mirrorRefuses);
    }

    private static void leastForm() {
        Checks.sentence("Promise 9: or -1 if refused", PromiseBoundaries::leastFormRefuses);
        Checks.sentence("Promise 9: first of {v0, v0}; then of {v1, v0}, {v1, v1}; and so on up to {v(n-1), v(n-1)}",
            PromiseBoundaries::formTakesThePairsInTurn);
        Checks.sentence("Promise 9: the first colour being the highest digit",
            PromiseBoundaries::firstColourIsTheHighestDigit);
        Checks.sentence("Promise 9: the digits of a number to the base 4", PromiseBoundaries::digitsToTheBaseFour);
        Checks.sentence("Promise 9: the least number that any order gives", PromiseBoundaries::leastOfAllOrders);
        Checks.sentence("Promise 9: (It has at most 28 digits.)", PromiseBoundaries::atMost28Digits);
    }

    private static void copySwapped() {
        Checks.sentence("Promise 10: Makes the graph a copy of the other one in which the points a and b have changed"
            + " places", PromiseBoundaries::everySwapInEachGraph);
        Checks.sentence("Promise 10: the points a and b (a = b too)", PromiseBoundaries::swapOfAPointWithItself);
        Checks.sentence("Promise 10: a copy of the other one (the other one stays as it is, and apart)",
            PromiseBoundaries::theCopyStandsApart);
        Checks.sentence("Promise 10: Answers 0", PromiseBoundaries::copySwappedAnswersZero);
        Checks.sentence("Promise 10: or -1 if refused", PromiseBoundaries::copySwappedRefuses);
    }

    private static void objectHasPoints(int asked, int n) {
        TwinGraphs x = new TwinGraphs(asked);
        String made = "TwinGraphs(" + asked + "): ";
        for (int graph = 0; graph < 2; graph++) {
            Checks.due(made + "colour of the last point", x.colour(graph, n - 1, n - 1), 0);
            Checks.due(made + "colour past the last point", x.colour(graph, n, n), -1);
            Checks.due(made + "paint past the last point", x.paint(graph, 0, n, 1), -1);
            Checks.due(made + "mirror of the last point", x.mirror(graph, n - 1), 0);
            Checks.due(made + "mirror past the last point", x.mirror(graph, n), -1);
            Checks.due(made + "symmetries", x.symmetries(graph), Samples.FACTORIAL[n]);
            Checks.due(made + "copySwapped past the last point", x.copySwapped(graph, 0, n), -1);
        }
        Checks.due(made + "laid(last)", x.laid(n - 1), n - 1);
        Checks.due(made + "laid past the last point", x.laid(n), -1);
        Checks.due(made + "canLay past the last point", x.canLay(0, 0, 0, n), -1);
        Checks.due(made + "layings", x.layings(), Samples.FACTORIAL[n]);
        Samples.paintAll(x, 1, n, 3, 3);
        Checks.due(made + "leastForm of nothing but threes", x.leastForm(1), (1L << n * (n + 1)) - 1);
    }

    private static void pointsAreKept() {
        for (int n = 1; n <= 7; n++) {
            objectHasPoints(n, n);
        }
    }

    private static void tooFewPoints() {
        for (int asked : new int[] {0, -1, -2, -7, -8, Integer.MIN_VALUE + 1, Integer.MIN_VALUE}) {
            objectHasPoints(asked, 1);
        }
    }

    private static void tooManyPoints() {
        for (int asked : new int[] {8, 9, 14, 49, 256, 1 << 30, Integer.MAX_VALUE}) {
            objectHasPoints(asked, 7);
        }
    }

    /** The colours that are due when nothing has a colour but {a, b} of the graph. */
    private static String onlyPair(int n, int graph, int a, int b, int colour) {
        StringBuilder all = new StringBuilder();
        for (int g = 0; g < 2; g++) {
            for (int x = 0; x < n; x++) {
                for (int y = 0; y < n; y++) {
                    boolean isIt = g == graph && (x == a && y == b || x == b && y == a);
                    all.append(isIt ? colour : 0);
                }
                all.append(' ');
            }
        }
        return all.toString();
    }

    private static void paintsAlone(int n, int graph, int a, int b) {
        TwinGraphs x = new TwinGraphs(n);
        String call = n + " points: paint(" + graph + ", " + a + ", " + b + ", 3)";
        Checks.due(call, x.paint(graph, a, b, 3), 0);
        Checks.same("after " + call, Samples.colours(x, n), onlyPair(n, graph, a, b, 3));
    }

    private static void paintsOnePairAlone() {
        for (int n = 2; n <= 7; n++) {
            for (int a = 0; a < n; a++) {
                for (int b = 0; b < n; b++) {
                    if (a != b) {
                        paintsAlone(n, 0, a, b);
                        paintsAlone(n, 1, a, b);
                    }
                }
            }
        }
    }

    private static void paintsOnePointAlone() {
        for (int n = 1; n <= 7; n++) {
            for (int a = 0; a < n; a++) {
                paintsAlone(n, 0, a, a);
                paintsAlone(n, 1, a, a);
            }
        }
    }

    private static void paintedColourIs(int given, int kept) {
        for (int before = 0; before < 4; before++) {
            TwinGraphs x = new TwinGraphs(2);
            for (int b = 0; b < 2; b++) {
                x.paint(1, 0, b, before);
                Checks.due("paint(1, 0, " + b + ", " + given + ")", x.paint(1, 0, b, given), before);
                Checks.due("colour(1, 0, " + b + ") then", x.colour(1, 0, b), kept);
            }
        }
    }

    private static void paintsColoursInRange() {
        for (int colour = 0; colour < 4; colour++) {
            paintedColourIs(colour, colour);
        }
    }

    private static void paintsColoursAboveThree() {
        paintedColourIs(4, 0);
        paintedColourIs(5, 1);
        paintedColourIs(6, 2);
        paintedColourIs(7, 3);
        paintedColourIs(8, 0);
        paintedColourIs(255, 3);
        paintedColourIs(1 << 30, 0);
        paintedColourIs(Integer.MAX_VALUE - 1, 2);
        paintedColourIs(Integer.MAX_VALUE, 3);
    }

    private static void paintsColoursBelowZero() {
        paintedColourIs(-1, 3);
        paintedColourIs(-2, 2);
        paintedColourIs(-3, 1);
        paintedColourIs(-4, 0);
        paintedColourIs(-5, 3);
        paintedColourIs(-256, 0);
        paintedColourIs(Integer.MIN_VALUE + 1, 1);
        paintedColourIs(Integer.MIN_VALUE, 0);
    }

    private static void answersTheColourBefore() {
        TwinGraphs x = new TwinGraphs(7);
        for (int graph = 0; graph < 2; graph++) {
            for (int before = 0; before < 4; before++) {
                for (int now = 0; now < 4; now++) {
                    x.paint(graph, 6, 2, before);
                    x.paint(graph, 6, 6, before);
                    Checks.due("paint of a pair with " + now, x.paint(graph, 6, 2, now), before);
                    Checks.due("paint of the pair turned", x.paint(graph, 2, 6, before), now);
                    Checks.due("paint of a point with " + now, x.paint(graph, 6, 6, now), before);
                }
            }
        }
    }

    private static void paintRefuses() {
        for (int n = 1; n <= 7; n++) {
            TwinGraphs x = Samples.twins(n);
            String before = Samples.state(x, n);
            for (int graph : Samples.WRONG_GRAPHS) {
                Checks.due("paint(" + graph + ", 0, last, 3)", x.paint(graph, 0, n - 1, 3), -1);
                Checks.due("paint(" + graph + ", 0, 0, 3)", x.paint(graph, 0, 0, 3), -1);
            }
            for (int point : Samples.wrongPoints(n)) {
                for (int graph = 0; graph < 2; graph++) {
                    Checks.due("paint with a = " + point, x.paint(graph, point, n - 1, 3), -1);
                    Checks.due("paint with b = " + point, x.paint(graph, 0, point, 3), -1);
                    Checks.due("paint with a = b = " + point, x.paint(graph, point, point, 3), -1);
                }
            }
            Checks.same("after refused paints on " + n + " points", Samples.state(x, n), before);
        }
    }

    private static void colourOfEveryPair() {
        TwinGraphs x = new TwinGraphs(7);
        for (int a = 0; a < 7; a++) {
            for (int b = 0; b <= a; b++) {
                x.paint(0, a, b, a + 2 * b);
                x.paint(1, b, a, a * b + 1);
            }
        }
        for (int a = 0; a < 7; a++) {
            for (int b = 0; b < 7; b++) {
                int high = a > b ? a : b;
                int low = a > b ? b : a;
                Checks.due("colour(0, " + a + ", " + b + ")", x.colour(0, a, b), (high + 2 * low) % 4);
                Checks.due("colour(1, " + a + ", " + b + ")", x.colour(1, a, b), (high * low + 1) % 4);
            }
        }
    }

    private static void colourRefuses() {
        for (int n = 1; n <= 7; n++) {
            TwinGraphs x = Samples.strangers(n);
            String before = Samples.state(x, n);
            for (int graph : Samples.WRONG_GRAPHS) {
                Checks.due("colour(" + graph + ", 0, last)", x.colour(graph, 0, n - 1), -1);
            }
            for (int point : Samples.wrongPoints(n)) {
                for (int graph = 0; graph < 2; graph++) {
                    Checks.due("colour with a = " + point, x.colour(graph, point, n - 1), -1);
                    Checks.due("colour with b = " + point, x.colour(graph, 0, point), -1);
                    Checks.due("colour with a = b = " + point, x.colour(graph, point, point), -1);
                }
            }
            Checks.same("after refused colours on " + n + " points", Samples.state(x, n), before);
        }
    }

    private static void noLayings() {
        for (int n = 1; n <= 7; n++) {
            Checks.due("layings() of strangers on " + n + " points", Samples.strangers(n).layings(), 0);
            TwinGraphs x = new TwinGraphs(n);
            Samples.paintAll(x, 0, n, 3, 3);
            Checks.due("layings() of threes upon nothing on " + n + " points", x.layings(), 0);
        }
    }

    private static void everyOrderIsALaying() {
        for (int n = 1; n <= 7; n++) {
            TwinGraphs x = new TwinGraphs(n);
            Checks.due("layings() of " + n + " fresh points", x.layings(), Samples.FACTORIAL[n]);
            for (int colour = 1; colour < 4; colour++) {
                Samples.paintAll(x, 0, n, colour, 3 - colour);
                Samples.paintAll(x, 1, n, colour, 3 - colour);
                Checks.due("layings() of " + n + " points of one colour", x.layings(), Samples.FACTORIAL[n]);
            }
        }
    }

    private static void oneLaying() {
        for (int n = 1; n <= 7; n++) {
            Checks.due("layings() of twins on " + n + " points", Samples.twins(n).layings(), 1);
        }
    }

    private static void laidRefuses() {
        for (int n = 1; n <= 7; n++) {
            for (TwinGraphs x : new TwinGraphs[] {Samples.twins(n), Samples.strangers(n), new TwinGraphs(n)}) {
                String before = Samples.state(x, n);
                for (int point : Samples.wrongPoints(n)) {
                    Checks.due("laid(" + point + ") on " + n + " points", x.laid(point), -1);
                }
                Checks.same("after refused laids on " + n + " points", Samples.state(x, n), before);
            }
        }
    }

    private static void laidWithoutALaying() {
        for (int n = 1; n <= 7; n++) {
            TwinGraphs x = Samples.strangers(n);
            for (int a = 0; a < n; a++) {
                Checks.due("laid(" + a + ") of strangers on " + n + " points", x.laid(a), -1);
            }
            TwinGraphs y = Samples.twins(n);
            y.paint(1, 0, 0, 3);
            for (int a = 0; a < n; a++) {
                Checks.due("laid(" + a + ") of spoilt twins on " + n + " points", y.laid(a), -1);
            }
            y.paint(0, n - 1, n - 1, 3);
            for (int a = 0; a < n; a++) {
                Checks.due("laid(" + a + ") of mended twins on " + n + " points", y.laid(a), n - 1 - a);
            }
        }
    }

    private static void canLayInOneLaying() {
        for (int n = 1; n <= 7; n++) {
            TwinGraphs x = Samples.twins(n);
            for (int a = 0; a < n; a++) {
                for (int c = 0; c < n; c++) {
                    Checks.due("canLay of the only laying", x.canLay(a, n - 1 - a, c, n - 1 - c), 1);
                    Checks.due("canLay beside the only laying", x.canLay(a, n - 1 - a, c, (n - c) % n), n == 1 ? 1 : 0);
                }
            }
            TwinGraphs fresh = new TwinGraphs(n);
            Checks.due("canLay of the least order", fresh.canLay(0, 0, n - 1, n - 1), 1);
            Checks.due("canLay of the greatest order", fresh.canLay(0, n - 1, n - 1, 0), 1);
        }
    }

    private static void canLayOnlyApart() {
        TwinGraphs x = new TwinGraphs(4);
        Samples.paintPath(x, 0, 1, 0, 1, 2, 3);
        Samples.paintPath(x, 1, 1, 1, 2, 0, 3);
        // The layings are 1 2 0 3 and 3 0 2 1: each half of what is asked is in one of them, not both in the same.
        Checks.due("canLay(0, 1, 0, 1)", x.canLay(0, 1, 0, 1), 1);
        Checks.due("canLay(3, 1, 3, 1)", x.canLay(3, 1, 3, 1), 1);
        Checks.due("canLay(0, 1, 3, 3)", x.canLay(0, 1, 3, 3), 1);
        Checks.due("canLay(0, 3, 3, 1)", x.canLay(0, 3, 3, 1), 1);
        Checks.due("canLay(0, 1, 1, 0)", x.canLay(0, 1, 1, 0), 0);
        Checks.due("canLay(1, 0, 0, 1)", x.canLay(1, 0, 0, 1), 0);
        Checks.due("canLay(0, 1, 3, 1)", x.canLay(0, 1, 3, 1), 0);
        Checks.due("canLay(0, 0, 1, 1)", x.canLay(0, 0, 1, 1), 0);
    }

    private static void canLayWithoutALaying() {
        for (int n = 1; n <= 7; n++) {
            TwinGraphs x = Samples.strangers(n);
            for (int a = 0; a < n; a++) {
                for (int b = 0; b < n; b++) {
                    Checks.due("canLay of strangers on " + n + " points", x.canLay(a, b, a, b), 0);
                    Checks.due("canLay of strangers on " + n + " points", x.canLay(a, b, b, a), 0);
                }
            }
        }
    }

    private static void canLayRefuses() {
        for (int n = 1; n <= 7; n++) {
            for (TwinGraphs x : new TwinGraphs[] {Samples.twins(n), Samples.strangers(n)}) {
                String before = Samples.state(x, n);
                for (int point : Samples.wrongPoints(n)) {
                    Checks.due("canLay with a = " + point, x.canLay(point, n - 1, 0, n - 1), -1);
                    Checks.due("canLay with b = " + point, x.canLay(0, point, 0, n - 1), -1);
                    Checks.due("canLay with c = " + point, x.canLay(0, n - 1, point, n - 1), -1);
                    Checks.due("canLay with d = " + point, x.canLay(0, n - 1, n - 1, point), -1);
                    Checks.due("canLay with a = c = " + point, x.canLay(point, 0, point, 0), -1);
                    Checks.due("canLay with b = d = " + point, x.canLay(0, point, 0, point), -1);
                    // c is a and d is not b, so no laying could do it, but a wrong point goes first.
                    Checks.due("canLay twice a with d = " + point, x.canLay(0, n - 1, 0, point), -1);
                }
                Checks.same("after refused canLays on " + n + " points", Samples.state(x, n), before);
            }
        }
    }

    private static void canLayOnePointTwice() {
        for (int n = 1; n <= 7; n++) {
            TwinGraphs x = new TwinGraphs(n);
            for (int a = 0; a < n; a += 3) {
                for (int b = 0; b < n; b++) {
                    for (int d = 0; d < n; d++) {
                        String call = "canLay(" + a + ", " + b + ", " + a + ", " + d + ") on " + n + " points";
                        Checks.due(call, x.canLay(a, b, a, d), b == d ? 1 : 0);
                    }
                }
            }
            TwinGraphs y = Samples.twins(n);
            for (int a = 0; a < n; a++) {
                for (int b = 0; b < n; b++) {
                    Checks.due("canLay of twins, twice " + a, y.canLay(a, b, a, b), a + b == n - 1 ? 1 : 0);
                }
            }
        }
    }

    private static void atLeastOneSymmetry() {
        for (int n = 1; n <= 7; n++) {
            TwinGraphs x = Samples.twins(n);
            Checks.due("symmetries(0) of a rigid graph on " + n + " points", x.symmetries(0), 1);
            Checks.due("symmetries(1) of a rigid graph on " + n + " points", x.symmetries(1), 1);
        }
    }

    private static void symmetriesOfEachGraph() {
        for (int n = 1; n <= 7; n++) {
            TwinGraphs x = Samples.strangers(n);
            Checks.due("symmetries(0) on " + n + " points", x.symmetries(0), 1);
            Checks.due("symmetries(1) on " + n + " points", x.symmetries(1), Samples.FACTORIAL[n]);
        }
        TwinGraphs one = new TwinGraphs(3);
        Samples.paintPoints(one, 0, 2, 0, 2);
        Checks.due("symmetries(0) by point colours", one.symmetries(0), 2);
        Checks.due("symmetries(1) beside it", one.symmetries(1), 6);
    }

    private static void symmetriesRefuses() {
        for (int n = 1; n <= 7; n++) {
            TwinGraphs x = Samples.strangers(n);
            String before = Samples.state(x, n);
            for (int graph : Samples.WRONG_GRAPHS) {
                Checks.due("symmetries(" + graph + ") on " + n + " points", x.symmetries(graph), -1);
            }
            Checks.same("after refused symmetries on " + n + " points", Samples.state(x, n), before);
        }
    }

    private static void mirrorOnItself() {
        for (int n = 1; n <= 7; n++) {
            TwinGraphs x = Samples.twins(n);
            for (int a = 0; a < n; a++) {
                Checks.due("mirror(0, " + a + ") of a rigid graph", x.mirror(0, a), a);
                Checks.due("mirror(1, " + a + ") of a rigid graph", x.mirror(1, a), a);
            }
        }
    }

    private static void mirrorOnTheFirstPoint() {
        for (int n = 1; n <= 7; n++) {
            TwinGraphs x = Samples.strangers(n);
            TwinGraphs fresh = new TwinGraphs(n);
            for (int a = 0; a < n; a++) {
                Checks.due("mirror(1, " + a + ") of one colour", x.mirror(1, a), 0);
                Checks.due("mirror(0, " + a + ") of a fresh graph", fresh.mirror(0, a), 0);
                Checks.due("mirror(1, " + a + ") of a fresh graph", fresh.mirror(1, a), 0);
            }
        }
    }

    private static void mirrorOnAPointBetween() {
        for (int graph = 0; graph < 2; graph++) {
            TwinGraphs x = new TwinGraphs(7);
            Samples.paintPoints(x, graph, 3, 1, 2, 1, 2, 1, 2);
            int[] least = {0, 1, 2, 1, 2, 1, 2};
            for (int a = 0; a < 7; a++) {
                Checks.due("mirror(" + graph + ", " + a + ")", x.mirror(graph, a), least[a]);
                Checks.due("mirror(" + (1 - graph) + ", " + a + ")", x.mirror(1 - graph, a), 0);
            }
        }
    }

    private static void mirrorRefuses() {
        for (int n = 1; n <= 7; n++) {
            TwinGraphs x = Samples.strangers(n);
            String before = Samples.state(x, n);
            for (int graph : Samples.WRONG_GRAPHS) {
                Checks.due("mirror(" + graph + ", 0)", x.mirror(graph, 0), -1);
                Checks.due("mirror(" + graph + ", last)", x.mirror(graph, n - 1), -1);
            }
            for (int point : Samples.wrongPoints(n)) {
                Checks.due("mirror(0, " + point + ") on " + n + " points", x.mirror(0, point), -1);
                Checks.due("mirror(1, " + point + ") on " + n + " points", x.mirror(1, point), -1);
            }
            Checks.same("after refused mirrors on " + n + " points", Samples.state(x, n), before);
        }
    }

    private static void leastFormRefuses() {
        for (int n = 1; n <= 7; n++) {
            TwinGraphs x = Samples.strangers(n);
            String before = Samples.state(x, n);
            for (int graph : Samples.WRONG_GRAPHS) {
                Checks.due("leastForm(" + graph + ") on " + n + " points", x.leastForm(graph), -1);
            }
            Checks.same("after refused leastForms on " + n + " points", Samples.state(x, n), before);
        }
    }

    private static void formTakesThePairsInTurn() {
        // Every order gives the same row where all points and all pairs have one colour each.
        String[] rows = {"1", "121", "121221", "1212212221", "121221222122221", "121221222122221222221",
            "1212212221222212222212222221"};
        for (int n = 1; n <= 7; n++) {
            TwinGraphs x = new TwinGraphs(n);
            Samples.paintAll(x, 0, n, 1, 2);
            Checks.due("leastForm(0) on " + n + " points", x.leastForm(0), Long.parseLong(rows[n - 1], 4));
            Checks.due("leastForm(1) on " + n + " points", x.leastForm(1), 0);
        }
    }

    private static void firstColourIsTheHighestDigit() {
        TwinGraphs x = new TwinGraphs(3);
        Samples.paintPoints(x, 0, 1, 1, 1);
        // The row 1 01 001; read from its end it would be 1041.
        Checks.due("leastForm(0) of three marked points", x.leastForm(0), 1089);
        TwinGraphs y = new TwinGraphs(3);
        Samples.paintPoints(y, 1, 3, 2, 1);
        // Read from its end the least would be 1059, of the row 3 02 001.
        Checks.due("leastForm(1), the row 1 02 003", y.leastForm(1), 1024 + 2 * 64 + 3);
        Samples.paintPoints(y, 1, 0, 3, 0);
        Checks.due("leastForm(1), the row 0 00 003", y.leastForm(1), 3);
    }

    private static void digitsToTheBaseFour() {
        for (int colour = 0; colour < 4; colour++) {
            TwinGraphs one = new TwinGraphs(1);
            one.paint(0, 0, 0, colour);
            Checks.due("leastForm(0) of one point", one.leastForm(0), colour);
            TwinGraphs two = new TwinGraphs(2);
            two.paint(1, 0, 1, colour);
            Checks.due("leastForm(1) of one pair", two.leastForm(1), 4 * colour);
            Samples.paintPoints(two, 1, colour, colour);
            Checks.due("leastForm(1) of two points and a pair", two.leastForm(1), 21 * colour);
        }
    }

    private static void leastOfAllOrders() {
        // One point unlike the others: wherever it stands, some order brings it to the front or to the end.
        for (int n = 2; n <= 7; n++) {
            long threes = (1L << n * (n + 1)) - 1;
            for (int a = 0; a < n; a++) {
                TwinGraphs x = new TwinGraphs(n);
                x.paint(0, a, a, 2);
                Checks.due("leastForm(0) with point " + a + " of " + n + " marked", x.leastForm(0), 2);
                Samples.paintAll(x, 1, n, 3, 3);
                x.paint(1, a, a, 0);
                Checks.due("leastForm(1) with point " + a + " of " + n + " blank", x.leastForm(1), threes >> 2);
            }
        }
    }

    private static void atMost28Digits() {
        for (int graph = 0; graph < 2; graph++) {
            TwinGraphs x = new TwinGraphs(7);
            Samples.paintAll(x, graph, 7, 3, 3);
            Checks.due("leastForm of 28 threes", x.leastForm(graph), TWENTY_EIGHT_THREES);
            Samples.paintAll(x, graph, 7, 1, 0);
            long marked = Long.parseLong("1010010001000010000010000001", 4);
            Checks.due("leastForm of seven marked points", x.leastForm(graph), marked);
            Samples.paintAll(x, graph, 7, 2, 0);
            Checks.due("leastForm of seven points of colour 2", x.leastForm(graph), 2 * marked);
            x.paint(graph, 6, 6, 0);
            // Only the first digits differ between orders, far above what an int holds.
            Checks.due("leastForm with one point blank", x.leastForm(graph), 2 * (marked - (1L << 54)));
        }
    }

    private static int swapped(int point, int a, int b) {
        return point == a ? b : point == b ? a : point;
    }

    private static void paintMixed(TwinGraphs x, int graph, int n) {
        for (int a = 0; a < n; a++) {
            for (int b = 0; b <= a; b++) {
                x.paint(graph, a, b, a * a + 3 * b + a * b / 2 + 1);
            }
        }
    }

    private static void copiesSwapped(int n, int graph, int a, int b) {
        TwinGraphs x = new TwinGraphs(n);
        int other = 1 - graph;
        paintMixed(x, other, n);
        Samples.paintAll(x, graph, n, 3, 2);
        String call = n + " points: copySwapped(" + graph + ", " + a + ", " + b + ")";
        String source = Samples.colours(x, n);
        Checks.due(call, x.copySwapped(graph, a, b), 0);
        StringBuilder want = new StringBuilder();
        int width = n + 1;
        int start = other * n * width;
        for (int g = 0; g < 2; g++) {
            for (int p = 0; p < n; p++) {
                for (int q = 0; q < n; q++) {
                    int fromP = g == graph ? swapped(p, a, b) : p;
                    int fromQ = g == graph ? swapped(q, a, b) : q;
                    want.append(source.charAt(start + fromP * width + fromQ));
                }
                want.append(' ');
            }
        }
        Checks.same("after " + call, Samples.colours(x, n), want.toString());
        Checks.due("canLay after " + call, x.canLay(a, b, b, a), 1);
    }

    private static void everySwapInEachGraph() {
        for (int n = 2; n <= 7; n++) {
            for (int a = 0; a < n; a++) {
                for (int b = 0; b < n; b++) {
                    if (a != b) {
                        copiesSwapped(n, 0, a, b);
                        copiesSwapped(n, 1, a, b);
                    }
                }
            }
        }
    }

    private static void swapOfAPointWithItself() {
        for (int n = 1; n <= 7; n++) {
            for (int a = 0; a < n; a++) {
                copiesSwapped(n, 0, a, a);
                copiesSwapped(n, 1, a, a);
            }
        }
    }

    private static void theCopyStandsApart() {
        for (int graph = 0; graph < 2; graph++) {
            TwinGraphs x = new TwinGraphs(7);
            int other = 1 - graph;
            x.paint(other, 0, 0, 1);
            x.copySwapped(graph, 0, 6);
            x.paint(other, 0, 0, 2);
            Checks.due("the copy after its model is painted", x.colour(graph, 6, 6), 1);
            x.paint(graph, 6, 6, 3);
            Checks.due("the model after its copy is painted", x.colour(other, 0, 0), 2);
            Checks.due("the model's other point", x.colour(other, 6, 6), 0);
            Checks.due("the copy's other point", x.colour(graph, 0, 0), 0);
        }
    }

    private static void copySwappedAnswersZero() {
        TwinGraphs x = Samples.strangers(5);
        Checks.due("copySwapped that changes the graph", x.copySwapped(0, 0, 4), 0);
        Checks.due("copySwapped that changes nothing", x.copySwapped(0, 0, 4), 0);
        Checks.due("copySwapped back", x.copySwapped(1, 4, 0), 0);
        Checks.due("copySwapped of a point with itself", x.copySwapped(1, 4, 4), 0);
        Checks.due("copySwapped on one point", new TwinGraphs(1).copySwapped(0, 0, 0), 0);
    }

    private static void copySwappedRefuses() {
        for (int n = 1; n <= 7; n++) {
            TwinGraphs x = Samples.strangers(n);
            String before = Samples.state(x, n);
            for (int graph : Samples.WRONG_GRAPHS) {
                Checks.due("copySwapped(" + graph + ", 0, last)", x.copySwapped(graph, 0, n - 1), -1);
                Checks.due("copySwapped(" + graph + ", 0, 0)", x.copySwapped(graph, 0, 0), -1);
            }
            for (int point : Samples.wrongPoints(n)) {
                for (int graph = 0; graph < 2; graph++) {
                    Checks.due("copySwapped with a = " + point, x.copySwapped(graph, point, n - 1), -1);
                    Checks.due("copySwapped with b = " + point, x.copySwapped(graph, 0, point), -1);
                    Checks.due("copySwapped with a = b = " + point, x.copySwapped(graph, point, point), -1);
                }
            }
            Checks.same("after refused copySwappeds on " + n + " points", Samples.state(x, n), before);
        }
    }
}
