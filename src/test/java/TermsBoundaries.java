// The boundary cases that the document names before its promises, one test for each sentence.
public final class TermsBoundaries {
    public static void main(String[] args) {
        Checks.sentence("An object is used for at most 512 calls after it has been made",
            TermsBoundaries::all512CallsAreAnswered);
        Checks.sentence("what later calls answer is free", TermsBoundaries::laterCallsStillEnd);
        Checks.sentence("GRAPHS 0 and 1 have the same points 0 .. n-1", TermsBoundaries::bothGraphsHaveEveryPoint);
        Checks.sentence("every unordered pair of points {a, b}, a and b different, has a colour from 0 to 3",
            TermsBoundaries::pairsHoldEveryColour);
        Checks.sentence("every point a has a colour from 0 to 3 too (the colour of the pair {a, a})",
            TermsBoundaries::pointsHoldEveryColour);
        Checks.sentence("A fresh object has colour 0 everywhere.", TermsBoundaries::freshObjectHasColourZero);
        Checks.sentence("A fresh object has colour 0 everywhere. (beside a painted one)",
            TermsBoundaries::freshObjectBesideAPaintedOne);
        Checks.sentence("an order of all the points (each point once)", TermsBoundaries::eachPointOnce);
        Checks.sentence("for all points a and b the colour of {a, b} in g equals the colour of {f(a), f(b)} in h",
            TermsBoundaries::onePairApartIsNoLaying);
        Checks.sentence("(a = b too)", TermsBoundaries::onePointApartIsNoLaying);
        Checks.sentence("for all points a and b (as many of each colour are not enough)",
            TermsBoundaries::countsOfColoursAreNotEnough);
        Checks.sentence("(The point f(a) is where a is laid.)", TermsBoundaries::whereAPointIsLaid);
        Checks.sentence("There are at most 5040 layings.", TermsBoundaries::atMost5040Layings);
        Checks.sentence("the LESSER is the one with the lesser f(0)", TermsBoundaries::lesserByItsFirstPoint);
        Checks.sentence("among those with equal f(0) the one with the lesser f(1), and so on",
            TermsBoundaries::lesserByALaterPoint);
        Checks.sentence("A graph is always 0 or 1 and points are from 0 to n-1",
            TermsBoundaries::outermostArgumentsAreTaken);
        Checks.sentence("a call with any other graph is refused: it answers -1 and changes nothing",
            TermsBoundaries::otherGraphsAreRefused);
        Checks.sentence("a call with any other point is refused: it answers -1 and changes nothing",
            TermsBoundaries::otherPointsAreRefused);
        Checks.sentence("refused (several wrong arguments in one call)", TermsBoundaries::severalWrongArguments);
        Checks.sentence("the answers and state changes described above (a question describes none)",
            TermsBoundaries::questionsChangeNothing);
        Checks.end();
    }

    private static void all512CallsAreAnswered() {
        TwinGraphs x = new TwinGraphs(7);
        for (int round = 0; round < 128; round++) {
            int before = round == 0 ? 0 : (round - 1) % 4;
            int now = round % 4;
            // One coloured pair: 2 orders of its points times 120 of the others.
            int layings = now == 0 ? 5040 : 240;
            Checks.due("paint in round " + round, x.paint(0, 5, 6, now), before);
            Checks.due("symmetries in round " + round, x.symmetries(0), layings);
            Checks.due("copySwapped in round " + round, x.copySwapped(1, 0, 6), 0);
            Checks.due("layings in round " + round, x.layings(), layings);
        }
    }

    private static void laterCallsStillEnd() {
        TwinGraphs x = Samples.twins(7);
        for (int round = 0; round < 300; round++) {
            x.paint(round % 2, round % 7, round % 5, round);
            x.colour(round % 3, round % 8, 0);
            x.layings();
            x.laid(round % 8);
            x.canLay(round % 8, 0, 6, round % 7);
            x.symmetries(round % 3);
            x.mirror(round % 3, round % 8);
            x.leastForm(round % 3);
            x.copySwapped(round % 3, round % 8, 6);
        }
    }

    private static void bothGraphsHaveEveryPoint() {
        for (int n = 1; n <= 7; n++) {
            for (int graph = 0; graph < 2; graph++) {
                TwinGraphs x = new TwinGraphs(n);
                for (int a = 0; a < n; a++) {
                    Checks.due(n + " points: colour(" + graph + ", " + a + ", 0)", x.colour(graph, a, 0), 0);
                    Checks.due(n + " points: paint of point " + a, x.paint(graph, a, a, 1), 0);
                }
                Checks.due(n + " points: colour of point " + n, x.colour(graph, n, n), -1);
                Checks.due(n + " points: colour of point -1", x.colour(graph, -1, -1), -1);
            }
        }
    }

    private static void pairsHoldEveryColour() {
        for (int n = 2; n <= 7; n++) {
            for (int graph = 0; graph < 2; graph++) {
                for (int colour = 0; colour < 4; colour++) {
                    TwinGraphs x = new TwinGraphs(n);
                    x.paint(graph, 0, n - 1, colour);
                    String pair = n + " points: the first and last point of graph " + graph;
                    Checks.due(pair, x.colour(graph, 0, n - 1), colour);
                    Checks.due(pair + " the other way round", x.colour(graph, n - 1, 0), colour);
                    x.paint(graph, n - 1, 0, 3 - colour);
                    Checks.due(pair + " painted the other way round", x.colour(graph, 0, n - 1), 3 - colour);
                    Checks.due(pair + ", the first alone", x.colour(graph, 0, 0), 0);
                    Checks.due(pair + ", the last alone", x.colour(graph, n - 1, n - 1), 0);
                }
            }
        }
    }

    private static void pointsHoldEveryColour() {
        for (int n = 1; n <= 7; n++) {
            for (int graph = 0; graph < 2; graph++) {
                for (int colour = 0; colour < 4; colour++) {
                    TwinGraphs x = new TwinGraphs(n);
                    x.paint(graph, 0, 0, 3 - colour);
                    x.paint(graph, n - 1, n - 1, colour);
                    String points = n + " points of graph " + graph;
                    Checks.due(points + ", the last", x.colour(graph, n - 1, n - 1), colour);
                    if (n > 1) {
                        Checks.due(points + ", the first", x.colour(graph, 0, 0), 3 - colour);
                        Checks.due(points + ", the pair of both", x.colour(graph, 0, n - 1), 0);
                    }
                }
            }
        }
    }

    private static void freshObjectHasColourZero() {
        for (int n = 1; n <= 7; n++) {
            TwinGraphs x = new TwinGraphs(n);
            for (int graph = 0; graph < 2; graph++) {
                for (int a = 0; a < n; a++) {
                    for (int b = 0; b < n; b++) {
                        Checks.due(n + " points: colour(" + graph + ", " + a + ", " + b + ")", x.colour(graph, a, b), 0);
                    }
                }
            }
        }
    }

    private static void freshObjectBesideAPaintedOne() {
        TwinGraphs early = new TwinGraphs(7);
        TwinGraphs painted = new TwinGraphs(7);
        Samples.paintAll(painted, 0, 7, 3, 2);
        Samples.paintAll(painted, 1, 7, 1, 3);
        TwinGraphs late = new TwinGraphs(7);
        String nothing = "0000000 ".repeat(14);
        Checks.same("made before the painted one", Samples.colours(early, 7), nothing);
        Checks.same("made after the painted one", Samples.colours(late, 7), nothing);
        Checks.due("colour of the painted one", painted.colour(1, 6, 5), 3);
    }

    private static void eachPointOnce() {
        for (int n = 2; n <= 7; n++) {
            TwinGraphs x = new TwinGraphs(n);
            for (int a = 1; a < n; a++) {
                for (int b = 0; b < n; b++) {
                    Checks.due("canLay of 0 and " + a + " both on " + b, x.canLay(0, b, a, b), 0);
                }
            }
            int seen = 0;
            for (int a = 0; a < n; a++) {
                seen |= 1 << x.laid(a);
            }
            Checks.due(n + " points: where all points are laid, as bits", seen, (1 << n) - 1);
            Checks.due(n + " points: layings()", x.layings(), Samples.FACTORIAL[n]);
        }
    }

    private static void onePairApartIsNoLaying() {
        for (int n = 2; n <= 7; n++) {
            TwinGraphs x = new TwinGraphs(n);
            for (int a = 0; a < n; a++) {
                for (int b = 0; b < a; b++) {
                    for (int graph = 0; graph < 2; graph++) {
                        x.paint(graph, a, b, 2);
                        Checks.due(n + " points: layings() with one pair painted in graph " + graph, x.layings(), 0);
                        x.paint(graph, a, b, 0);
                    }
                }
            }
            Checks.due(n + " points: layings() with none painted", x.layings(), Samples.FACTORIAL[n]);
        }
    }

    private static void onePointApartIsNoLaying() {
        for (int n = 1; n <= 7; n++) {
            TwinGraphs x = new TwinGraphs(n);
            for (int a = 0; a < n; a++) {
                for (int graph = 0; graph < 2; graph++) {
                    x.paint(graph, a, a, 2);
                    Checks.due(n + " points: layings() with point " + a + " painted alone", x.layings(), 0);
                    x.paint(1 - graph, n - 1 - a, n - 1 - a, 2);
                    Checks.due(n + " points: layings() with a point painted in both", x.layings(),
                        Samples.FACTORIAL[n - 1]);
                    x.paint(graph, a, a, 0);
                    x.paint(1 - graph, n - 1 - a, n - 1 - a, 0);
                }
            }
            Checks.due(n + " points: layings() with none painted", x.layings(), Samples.FACTORIAL[n]);
        }
    }

    private static void countsOfColoursAreNotEnough() {
        TwinGraphs rings = new TwinGraphs(6);
        Samples.paintPath(rings, 0, 1, 0, 1, 2, 3, 4, 5, 0);
        Samples.paintPath(rings, 1, 1, 0, 1, 2, 0);
        Samples.paintPath(rings, 1, 1, 3, 4, 5, 3);
        Checks.due("layings() of a ring of six upon two rings of three", rings.layings(), 0);

        TwinGraphs marked = new TwinGraphs(3);
        marked.paint(0, 0, 0, 1);
        marked.paint(0, 0, 1, 1);
        marked.paint(1, 2, 2, 1);
        marked.paint(1, 0, 1, 1);
        Checks.due("layings() of a pair with a marked point upon one without", marked.layings(), 0);
    }

    private static void whereAPointIsLaid() {
        TwinGraphs x = new TwinGraphs(3);
        Samples.paintPoints(x, 0, 1, 2, 3);
        Samples.paintPoints(x, 1, 3, 1, 2);
        // The one laying is 1 2 0; the other way round it would be 2 0 1.
        int[] where = {1, 2, 0};
        for (int a = 0; a < 3; a++) {
            Checks.due("laid(" + a + ")", x.laid(a), where[a]);
            for (int b = 0; b < 3; b++) {
                Checks.due("canLay(" + a + ", " + b + ") twice", x.canLay(a, b, a, b), where[a] == b ? 1 : 0);
            }
        }
    }

    private static void atMost5040Layings() {
        for (int points : new int[] {7, 8, Integer.MAX_VALUE}) {
            TwinGraphs x = new TwinGraphs(points);
            Checks.due("layings() of fresh graphs", x.layings(), 5040);
            Checks.due("symmetries(0) of a fresh graph", x.symmetries(0), 5040);
            Checks.due("symmetries(1) of a fresh graph", x.symmetries(1), 5040);
            // The greatest of the 5040 orders is still one of them.
            Checks.due("canLay(0, 6, 6, 0)", x.canLay(0, 6, 6, 0), 1);
            Checks.due("canLay(4, 2, 5, 1)", x.canLay(4, 2, 5, 1), 1);
        }
    }

    private static void lesserByItsFirstPoint() {
        TwinGraphs x = new TwinGraphs(5);
        Samples.paintPath(x, 0, 1, 0, 1, 2, 3, 4);
        Samples.paintPath(x, 1, 1, 4, 0, 2, 3, 1);
        // 4 0 2 3 1 and 1 3 2 0 4: f(1) and f(4) speak for the first, yet f(0) makes the second the lesser.
        int[] least = {1, 3, 2, 0, 4};
        for (int a = 0; a < 5; a++) {
            Checks.due("laid(" + a + ")", x.laid(a), least[a]);
        }
        for (int n = 1; n <= 7; n++) {
            TwinGraphs fresh = new TwinGraphs(n);
            for (int a = 0; a < n; a++) {
                Checks.due("laid(" + a + ") on " + n + " fresh points", fresh.laid(a), a);
            }
        }
    }

    private static void lesserByALaterPoint() {
        // A pinned head of the points and a tail that can be laid in two ways, which part at the tail's first point.
        for (int head = 1; head <= 5; head++) {
            TwinGraphs x = new TwinGraphs(7);
            for (int graph = 0; graph < 2; graph++) {
                for (int a = 0; a < 7; a++) {
                    int at = graph == 0 ? a : 6 - a;
                    int next = graph == 0 ? a + 1 : 5 - a;
                    x.paint(graph, at, at, a == 0 ? 2 : a < head ? 1 : 0);
                    if (a < 6 && a + 1 != head) {
                        x.paint(graph, at, next, a < head ? 1 : 2);
                    }
                }
            }
            Checks.due("layings() with a head of " + head, x.layings(), 2);
            for (int a = 0; a < 7; a++) {
                Checks.due("laid(" + a + ") with a head of " + head, x.laid(a), a < head ? 6 - a : a - head);
            }
        }
    }

    private static void outermostArgumentsAreTaken() {
        for (int n = 1; n <= 7; n++) {
            TwinGraphs x = Samples.twins(n);
            int last = n - 1;
            String on = " on " + n + " points";
            for (int graph = 0; graph < 2; graph++) {
                int marked = graph == 0 ? 0 : last;
                Checks.due("colour of the marked end" + on, x.colour(graph, marked, marked), 1);
                Checks.due("paint of the marked end" + on, x.paint(graph, marked, marked, 1), 1);
                Checks.due("symmetries(" + graph + ")" + on, x.symmetries(graph), 1);
                Checks.due("mirror of the first point" + on, x.mirror(graph, 0), 0);
                Checks.due("mirror of the last point" + on, x.mirror(graph, last), last);
                Checks.due("leastForm(1) beside leastForm(0)" + on, x.leastForm(graph), x.leastForm(1 - graph));
            }
            Checks.due("laid of the first point" + on, x.laid(0), last);
            Checks.due("laid of the last point" + on, x.laid(last), 0);
            Checks.due("canLay of the first and last point" + on, x.canLay(0, last, last, 0), 1);
            Checks.due("copySwapped(0) of the first and last point" + on, x.copySwapped(0, 0, last), 0);
            Checks.due("copySwapped(1) of the last and first point" + on, x.copySwapped(1, last, 0), 0);
        }
    }

    private static void otherGraphsAreRefused() {
        for (int n = 1; n <= 7; n++) {
            TwinGraphs x = Samples.strangers(n);
            String before = Samples.state(x, n);
            for (int graph : Samples.WRONG_GRAPHS) {
                String with = " with graph " + graph + " on " + n + " points";
                Checks.due("paint" + with, x.paint(graph, 0, n - 1, 3), -1);
                Checks.due("colour" + with, x.colour(graph, 0, n - 1), -1);
                Checks.due("symmetries" + with, x.symmetries(graph), -1);
                Checks.due("mirror" + with, x.mirror(graph, n - 1), -1);
                Checks.due("leastForm" + with, x.leastForm(graph), -1);
                Checks.due("copySwapped" + with, x.copySwapped(graph, 0, n - 1), -1);
            }
            Checks.same("after wrong graphs on " + n + " points", Samples.state(x, n), before);
        }
    }

    private static void otherPointsAreRefused() {
        for (int n = 1; n <= 7; n++) {
            TwinGraphs x = Samples.twins(n);
            String before = Samples.state(x, n);
            for (int point : Samples.wrongPoints(n)) {
                String with = " with point " + point + " on " + n + " points";
                Checks.due("laid" + with, x.laid(point), -1);
                Checks.due("canLay" + with, x.canLay(0, n - 1, point, 0), -1);
                for (int graph = 0; graph < 2; graph++) {
                    Checks.due("paint" + with, x.paint(graph, point, 0, 3), -1);
                    Checks.due("colour" + with, x.colour(graph, 0, point), -1);
                    Checks.due("mirror" + with, x.mirror(graph, point), -1);
                    Checks.due("copySwapped" + with, x.copySwapped(graph, point, n - 1), -1);
                }
            }
            Checks.same("after wrong points on " + n + " points", Samples.state(x, n), before);
        }
    }

    private static void severalWrongArguments() {
        for (int n = 1; n <= 7; n++) {
            TwinGraphs x = Samples.strangers(n);
            String before = Samples.state(x, n);
            for (int point : Samples.wrongPoints(n)) {
                String with = " with point " + point + " all over, on " + n + " points";
                Checks.due("paint" + with, x.paint(2, point, point, 3), -1);
                Checks.due("colour" + with, x.colour(-1, point, point), -1);
                Checks.due("canLay" + with, x.canLay(point, point, point, point), -1);
                Checks.due("mirror" + with, x.mirror(2, point), -1);
                Checks.due("copySwapped" + with, x.copySwapped(-1, point, point), -1);
                // One too high and one too low can fall together on a place that is there.
                Checks.due("paint of n and its opposite" + with, x.paint(0, n, -n, 3), -1);
                Checks.due("paint of the next graph and -7" + with, x.paint(1, -7, 0, 3), -1);
            }
            Checks.same("after wrong arguments on " + n + " points", Samples.state(x, n), before);
        }
    }

    private static void questionsChangeNothing() {
        for (int n = 1; n <= 7; n++) {
            TwinGraphs x = Samples.twins(n);
            String before = Samples.state(x, n);
            Checks.same("asked again on " + n + " points", Samples.state(x, n), before);
            TwinGraphs y = Samples.strangers(n);
            before = Samples.state(y, n);
            Checks.same("asked again without a laying on " + n + " points", Samples.state(y, n), before);
        }
    }
}
