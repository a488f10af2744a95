// Each promise of the document by itself with ordinary inputs; the boundary tests have the edges and wrong inputs.
public final class PromiseTests {
    public static void main(String[] args) {
        Checks.sentence("Promise 1", PromiseTests::newObject);
        Checks.sentence("Promise 2", PromiseTests::paint);
        Checks.sentence("Promise 3", PromiseTests::colour);
        Checks.sentence("Promise 4", PromiseTests::layings);
        Checks.sentence("Promise 5", PromiseTests::laid);
        Checks.sentence("Promise 6", PromiseTests::canLay);
        Checks.sentence("Promise 7", PromiseTests::symmetries);
        Checks.sentence("Promise 8", PromiseTests::mirror);
        Checks.sentence("Promise 9", PromiseTests::leastForm);
        Checks.sentence("Promise 10", PromiseTests::copySwapped);
        Checks.end();
    }

    /** A graph on four points that only leaves every point where it is when laid upon itself. */
    private static TwinGraphs lopsided() {
        TwinGraphs x = new TwinGraphs(4);
        Samples.paintPoints(x, 0, 1, 2, 3, 1);
        x.paint(0, 0, 1, 1);
        x.paint(0, 0, 2, 2);
        x.paint(0, 0, 3, 3);
        x.paint(0, 1, 2, 3);
        x.paint(0, 1, 3, 0);
        x.paint(0, 2, 3, 1);
        return x;
    }

    private static void newObject() {
        TwinGraphs x = new TwinGraphs(4);
        Checks.same("colours", Samples.colours(x, 4), "0000 0000 0000 0000 0000 0000 0000 0000 ");
        Checks.due("layings()", x.layings(), 24);
        Checks.due("laid(2)", x.laid(2), 2);
        Checks.due("mirror(1, 3)", x.mirror(1, 3), 0);
        Checks.due("leastForm(0)", x.leastForm(0), 0);
    }

    private static void paint() {
        TwinGraphs x = new TwinGraphs(3);
        Checks.due("paint(0, 0, 1, 2)", x.paint(0, 0, 1, 2), 0);
        Checks.due("paint(0, 0, 1, 3)", x.paint(0, 0, 1, 3), 2);
        Checks.due("paint(0, 1, 0, 1), the pair the other way round", x.paint(0, 1, 0, 1), 3);
        Checks.due("paint(0, 2, 2, 3), a point", x.paint(0, 2, 2, 3), 0);
        Checks.due("paint(0, 2, 2, 3) again", x.paint(0, 2, 2, 3), 3);
        Checks.due("paint(1, 2, 1, 2)", x.paint(1, 2, 1, 2), 0);
        Checks.same("colours", Samples.colours(x, 3), "010 100 003 000 002 020 ");
    }

    private static void colour() {
        TwinGraphs x = lopsided();
        Checks.due("colour(0, 1, 2)", x.colour(0, 1, 2), 3);
        Checks.due("colour(0, 2, 1)", x.colour(0, 2, 1), 3);
        Checks.due("colour(0, 3, 0)", x.colour(0, 3, 0), 3);
        Checks.due("colour(0, 2, 2)", x.colour(0, 2, 2), 3);
        Checks.due("colour(0, 1, 3)", x.colour(0, 1, 3), 0);
        Checks.due("colour(1, 1, 2)", x.colour(1, 1, 2), 0);
    }

    private static void layings() {
        TwinGraphs x = new TwinGraphs(4);
        Samples.paintPath(x, 0, 2, 0, 1, 2, 3);
        Checks.due("layings() of a path upon nothing", x.layings(), 0);
        Samples.paintPath(x, 1, 2, 2, 0, 3, 1);
        Checks.due("layings() of a path upon a path", x.layings(), 2);
        x.paint(0, 0, 0, 1);
        Checks.due("layings() with one end marked above", x.layings(), 0);
        x.paint(1, 1, 1, 1);
        Checks.due("layings() with one end marked in both", x.layings(), 1);
        x.paint(1, 0, 3, 3);
        Checks.due("layings() with another colour below", x.layings(), 0);
    }

    private static void laid() {
        TwinGraphs x = new TwinGraphs(4);
        Samples.paintPoints(x, 0, 0, 1, 2, 3);
        Samples.paintPoints(x, 1, 3, 0, 1, 2);
        int[] where = {1, 2, 3, 0};
        for (int a = 0; a < 4; a++) {
            Checks.due("laid(" + a + ")", x.laid(a), where[a]);
        }
    }

    private static void canLay() {
        TwinGraphs x = new TwinGraphs(4);
        Samples.paintPath(x, 0, 1, 0, 1, 2, 3);
        Samples.paintPath(x, 1, 1, 1, 2, 0, 3);
        // Neither laying turned back is a laying, so asking the wrong way round shows.
        int[][] layings = {{1, 2, 0, 3}, {3, 0, 2, 1}};
        for (int asked = 0; asked < 256; asked++) {
            int a = asked / 64;
            int b = asked / 16 % 4;
            int c = asked / 4 % 4;
            int d = asked % 4;
            int want = 0;
            for (int[] f : layings) {
                want |= f[a] == b && f[c] == d ? 1 : 0;
            }
            Checks.due("canLay(" + a + ", " + b + ", " + c + ", " + d + ")", x.canLay(a, b, c, d), want);
        }
    }

    private static void symmetries() {
        TwinGraphs x = new TwinGraphs(6);
        Samples.paintPath(x, 0, 1, 0, 1, 2, 3, 4, 5);
        Checks.due("symmetries(0) of a path", x.symmetries(0), 2);
        Checks.due("symmetries(1) of nothing", x.symmetries(1), 720);
        x.paint(0, 5, 0, 1);
        Checks.due("symmetries(0) of a ring", x.symmetries(0), 12);
        x.paint(0, 5, 0, 2);
        Checks.due("symmetries(0) of a ring with one pair apart", x.symmetries(0), 2);
        Samples.paintPoints(x, 1, 0, 0, 0, 1, 1, 3);
        Checks.due("symmetries(1) by point colours", x.symmetries(1), 12);
        Checks.due("symmetries(0) of a graph with no turn", lopsided().symmetries(0), 1);
    }

    private static void mirror() {
        TwinGraphs x = new TwinGraphs(5);
        Samples.paintPath(x, 0, 1, 4, 0, 2, 3, 1);
        // The path turns round: 4 and 1, 0 and 3 change places, 2 stays.
        int[] turned = {0, 1, 2, 0, 1};
        for (int a = 0; a < 5; a++) {
            Checks.due("mirror(0, " + a + ") of a path", x.mirror(0, a), turned[a]);
            Checks.due("mirror(1, " + a + ") of nothing", x.mirror(1, a), 0);
        }
    }

    private static void leastForm() {
        TwinGraphs two = new TwinGraphs(2);
        Samples.paintPoints(two, 0, 3, 1);
        two.paint(0, 0, 1, 2);
        Checks.due("leastForm(0) of two points, the row 1 23", two.leastForm(0), 27);

        TwinGraphs three = new TwinGraphs(3);
        Samples.paintPoints(three, 1, 1, 2, 3);
        three.paint(1, 0, 1, 3);
        three.paint(1, 1, 2, 2);
        // Point 0 comes first by its colour, then 2 by its pair with 0.
        Checks.due("leastForm(1) of three points, the row 1 03 322", three.leastForm(1), 1274);
        Checks.due("leastForm(0) beside it", three.leastForm(0), 0);
    }

    private static void copySwapped() {
        TwinGraphs x = lopsided();
        x.paint(1, 1, 3, 2);
        Checks.due("copySwapped(1, 0, 2)", x.copySwapped(1, 0, 2), 0);
        String first = "1123 1230 2331 3011 ";
        String swapped = "3321 3210 2113 1031 ";
        Checks.same("after copySwapped(1, 0, 2)", Samples.colours(x, 4), first + swapped);
        Checks.due("copySwapped(1, 2, 0)", x.copySwapped(1, 2, 0), 0);
        Checks.same("after copySwapped(1, 2, 0)", Samples.colours(x, 4), first + swapped);
        Checks.due("copySwapped(0, 3, 3)", x.copySwapped(0, 3, 3), 0);
        Checks.same("after copySwapped(0, 3, 3)", Samples.colours(x, 4), swapped + swapped);
        Checks.due("copySwapped(0, 0, 2)", x.copySwapped(0, 0, 2), 0);
        Checks.same("after copySwapped(0, 0, 2)", Samples.colours(x, 4), first + swapped);
        Checks.due("canLay(0, 2, 2, 0)", x.canLay(0, 2, 2, 0), 1);
    }
}
