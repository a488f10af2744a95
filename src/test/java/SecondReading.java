// What a second reading of the document, from its first line on, found without a test of its own.
public final class SecondReading {
    /** What paintRigid takes on 7 points: one marked end and six pairs. */
    private static final int CALLS_OF_A_RIGID_GRAPH = 7;

    public static void main(String[] args) {
        Checks.sentence("two coloured graphs: each has its own colours", SecondReading::graphsStandApart);
        Checks.sentence("at most 512 calls: the last may be any call", SecondReading::anyCallAsThe512th);
        Checks.sentence("at most 512 calls: the last may be refused", SecondReading::refusedAsThe512th);
        Checks.sentence("An object is used: beside another", SecondReading::twoObjectsInTurn);
        Checks.sentence("every question: asked in any order", SecondReading::questionsInAnyOrder);
        Checks.sentence("Promise 2: the colour it had before, from a copy", SecondReading::colourBeforeFromACopy);
        Checks.sentence("Promise 4: How many layings there are: between one and all",
            SecondReading::numbersOfLayings);
        Checks.sentence("Promise 5: Where the least laying of graph 0 upon graph 1 lays the point a",
            SecondReading::leastOfManyLayings);
        Checks.sentence("Promise 9: an order of all points (each point once)", SecondReading::formOfAllPointsOnce);
        Checks.sentence("Promise 9: then of {v1, v0}, {v1, v1}; then of {v2, v0}, {v2, v1}, {v2, v2}",
            SecondReading::formOfTheOnlyOrder);
        Checks.sentence("Promise 10: the colour that {x', y'} has in the other graph, time after time",
            SecondReading::copiesOneAfterAnother);
        Checks.end();
    }

    private static void graphsStandApart() {
        TwinGraphs x = new TwinGraphs(7);
        Samples.paintAll(x, 0, 7, 1, 2);
        Samples.paintAll(x, 1, 7, 3, 0);
        String zero = "1222222 2122222 2212222 2221222 2222122 2222212 2222221 ";
        String one = "3000000 0300000 0030000 0003000 0000300 0000030 0000003 ";
        Checks.same("colours", Samples.colours(x, 7), zero + one);
    }

    private static TwinGraphs twinsAfter511Calls() {
        TwinGraphs x = new TwinGraphs(7);
        int idle = 511 - 2 * CALLS_OF_A_RIGID_GRAPH;
        for (int call = 0; call < idle; call++) {
            int point = call / 9 % 9 - 1;
            switch (call % 9) {
                case 0 -> x.paint(call % 2, 3, 3, 4 * call);
                case 1 -> x.colour(0, point, 6);
                case 2 -> x.layings();
                case 3 -> x.laid(point);
                case 4 -> x.canLay(0, 6, point, 0);
                case 5 -> x.symmetries(1);
                case 6 -> x.mirror(0, point);
                case 7 -> x.leastForm(call % 3);
                default -> x.copySwapped(call % 2, point, 0);
            }
        }
        Samples.paintRigid(x, 0, Samples.upwards(7));
        Samples.paintRigid(x, 1, Samples.downwards(7));
        return x;
    }

    private static void anyCallAsThe512th() {
        Checks.due("paint", twinsAfter511Calls().paint(1, 6, 5, 1), 2);
        Checks.due("colour", twinsAfter511Calls().colour(1, 6, 6), 1);
        Checks.due("layings", twinsAfter511Calls().layings(), 1);
        Checks.due("laid", twinsAfter511Calls().laid(1), 5);
        Checks.due("canLay", twinsAfter511Calls().canLay(0, 6, 4, 2), 1);
        Checks.due("canLay of no laying", twinsAfter511Calls().canLay(0, 6, 4, 3), 0);
        Checks.due("symmetries", twinsAfter511Calls().symmetries(0), 1);
        Checks.due("mirror", twinsAfter511Calls().mirror(1, 6), 6);
        Checks.due("leastForm", twinsAfter511Calls().leastForm(1), rigidForm(7));
        Checks.due("copySwapped", twinsAfter511Calls().copySwapped(0, 6, 0), 0);
    }

    /** The least form of a path with a marked end, by the model. */
    private static long rigidForm(int n) {
        Model model = new Model(n);
        model.paint(0, 0, 0, 1);
        for (int a = 0; a + 1 < n; a++) {
            model.paint(0, a, a + 1, 2);
        }
        return model.leastForm(0);
    }

    private static void refusedAsThe512th() {
        Checks.due("paint", twinsAfter511Calls().paint(2, 0, 0, 1), -1);
        Checks.due("colour", twinsAfter511Calls().colour(0, 7, 0), -1);
        Checks.due("laid", twinsAfter511Calls().laid(7), -1);
        Checks.due("canLay", twinsAfter511Calls().canLay(0, 6, 0, -1), -1);
        Checks.due("symmetries", twinsAfter511Calls().symmetries(-1), -1);
        Checks.due("mirror", twinsAfter511Calls().mirror(1, 7), -1);
        Checks.due("leastForm", twinsAfter511Calls().leastForm(2), -1);
        Checks.due("copySwapped", twinsAfter511Calls().copySwapped(0, 0, 7), -1);
    }

    private static void twoObjectsInTurn() {
        TwinGraphs small = Samples.twins(3);
        TwinGraphs large = Samples.twins(7);
        String smallAlone = Samples.state(Samples.twins(3), 3);
        String largeAlone = Samples.state(Samples.twins(7), 7);
        Checks.same("the small one", Samples.state(small, 3), smallAlone);
        for (int a = 0; a < 3; a++) {
            Checks.due("laid(" + a + ") of the large one", large.laid(a), 6 - a);
            Checks.due("laid(" + a + ") of the small one", small.laid(a), 2 - a);
            Checks.due("laid(" + (a + 3) + ") of the small one", small.laid(a + 3), -1);
        }
        small.copySwapped(0, 0, 1);
        small.paint(1, 2, 2, 3);
        Checks.same("the large one, the small one being changed", Samples.state(large, 7), largeAlone);
        Checks.due("layings() of the small one", small.layings(), 0);
    }

    /** What one question leaves behind in the object must not reach the answer of the next. */
    private static void questionsInAnyOrder() {
        long[] ofStrangers = {0, -1, 0, 720, 5, Long.parseLong("212112111211112111112", 4)};
        long[] ofTwins = {1, 0, 1, 1, 5, rigidForm(6)};
        for (int first = 0; first < 6; first++) {
            for (int second = 0; second < 6; second++) {
                TwinGraphs strangers = Samples.strangers(6);
                TwinGraphs twins = Samples.twins(6);
                String then = "question " + second + " after question " + first;
                Checks.due("strangers: question " + first, ask(strangers, first), ofStrangers[first]);
                Checks.due("strangers: " + then, ask(strangers, second), ofStrangers[second]);
                Checks.due("twins: question " + first, ask(twins, first), ofTwins[first]);
                Checks.due("twins: " + then, ask(twins, second), ofTwins[second]);
            }
        }
    }

    private static long ask(TwinGraphs x, int question) {
        return switch (question) {
            case 0 -> x.layings();
            case 1 -> x.laid(5);
            case 2 -> x.canLay(0, 5, 5, 0);
            case 3 -> x.symmetries(1);
            case 4 -> x.mirror(0, 5);
            default -> x.leastForm(1);
        };
    }

    private static void colourBeforeFromACopy() {
        for (int graph = 0; graph < 2; graph++) {
            TwinGraphs x = new TwinGraphs(5);
            int other = 1 - graph;
            x.paint(other, 0, 3, 2);
            x.paint(other, 4, 4, 3);
            x.copySwapped(graph, 3, 4);
            Checks.due("paint of the copied pair", x.paint(graph, 4, 0, 1), 2);
            Checks.due("paint of the copied point", x.paint(graph, 3, 3, 1), 3);
            Checks.due("paint where the pair came from", x.paint(graph, 3, 0, 1), 0);
            Checks.due("paint where the point came from", x.paint(graph, 4, 4, 1), 0);
        }
    }

    private static void numbersOfLayings() {
        // Points in classes of one colour change places within their class: the product of the factorials.
        int[][] classes = {{7}, {6, 1}, {5, 2}, {5, 1, 1}, {4, 3}, {4, 2, 1}, {4, 1, 1, 1}, {3, 3, 1}, {3, 2, 2},
            {3, 2, 1, 1}, {2, 2, 2, 1}};
        for (int[] sizes : classes) {
            TwinGraphs x = new TwinGraphs(7);
            int want = 1;
            int point = 0;
            for (int colour = 0; colour < sizes.length; colour++) {
                want *= Samples.FACTORIAL[sizes[colour]];
                for (int i = 0; i < sizes[colour]; i++) {
                    x.paint(0, point, point, colour);
                    x.paint(1, 6 - point, 6 - point, colour);
                    point++;
                }
            }
            Checks.due("layings() of " + sizes.length + " classes of points", x.layings(), want);
            Checks.due("symmetries(0) of them", x.symmetries(0), want);
            Checks.due("symmetries(1) of them", x.symmetries(1), want);
        }
    }

    private static void leastOfManyLayings() {
        for (int n = 2; n <= 7; n++) {
            // The marked points, the first of graph 0 and the last of graph 1, must meet; the others keep their turn.
            TwinGraphs x = new TwinGraphs(n);
            x.paint(0, 0, 0, 1);
            x.paint(1, n - 1, n - 1, 1);
            Checks.due("layings() on " + n + " points", x.layings(), Samples.FACTORIAL[n - 1]);
            for (int a = 0; a < n; a++) {
                Checks.due("laid(" + a + ") on " + n + " points", x.laid(a), a == 0 ? n - 1 : a - 1);
            }
        }
    }

    private static void formOfAllPointsOnce() {
        for (int n = 2; n <= 7; n++) {
            TwinGraphs x = new TwinGraphs(n);
            // Left out, or stood in for by a blank point twice, the marked point would leave no digit.
            x.paint(0, n - 1, n - 1, 3);
            Checks.due("leastForm(0) with one marked point of " + n, x.leastForm(0), 3);
            x.paint(1, 0, n - 1, 1);
            Checks.due("leastForm(1) with one marked pair of " + n, x.leastForm(1), 4);
        }
    }

    private static void formOfTheOnlyOrder() {
        // The colours of the points leave one order that can be least: 2, then 0, then 3, then 1.
        TwinGraphs x = new TwinGraphs(4);
        Samples.paintPoints(x, 0, 1, 3, 0, 2);
        x.paint(0, 0, 2, 0);
        x.paint(0, 2, 3, 1);
        x.paint(0, 0, 3, 2);
        x.paint(0, 1, 2, 3);
        x.paint(0, 0, 1, 1);
        x.paint(0, 1, 3, 2);
        Checks.due("leastForm(0), the row 0 01 122 3123", x.leastForm(0), Long.parseLong("0011223123", 4));
    }

    private static void copiesOneAfterAnother() {
        TwinGraphs x = new TwinGraphs(3);
        Samples.paintPoints(x, 0, 1, 2, 3);
        x.paint(0, 0, 1, 1);
        x.paint(0, 0, 2, 2);
        x.copySwapped(1, 0, 1);
        Checks.same("after copySwapped(1, 0, 1)", Samples.colours(x, 3), "112 120 203 210 112 023 ");
        x.copySwapped(0, 1, 2);
        Checks.same("after copySwapped(0, 1, 2)", Samples.colours(x, 3), "201 032 121 210 112 023 ");
    }
}
