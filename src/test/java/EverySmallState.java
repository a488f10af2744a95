// Every question about every state that so few points and colours can have, held against the model.
public final class EverySmallState {
    public static void main(String[] args) {
        Checks.sentence("one point, every colour", () -> everyState(1, 4));
        Checks.sentence("two points, every colour", () -> everyState(2, 4));
        Checks.sentence("three points, colours 0 and 1", () -> everyState(3, 2));
        Checks.sentence("three points, every colour, upon a copy", () -> everyCopy(3, 4));
        Checks.sentence("four points, colours 0 and 1, upon a copy", () -> everyCopy(4, 2));
        Checks.end();
    }

    private static void everyState(int n, int palette) {
        int states = statesOf(n, palette);
        for (int state = 0; state < states * states; state++) {
            TwinGraphs x = new TwinGraphs(n);
            Model model = new Model(n);
            paint(x, model, 0, n, palette, state % states);
            paint(x, model, 1, n, palette, state / states);
            everyQuestion(x, model, n);
        }
    }

    private static void everyCopy(int n, int palette) {
        int states = statesOf(n, palette);
        for (int state = 0; state < states; state++) {
            TwinGraphs x = new TwinGraphs(n);
            Model model = new Model(n);
            paint(x, model, 0, n, palette, state);
            Checks.due("copySwapped(1, 0, " + (n - 1) + ")", x.copySwapped(1, 0, n - 1), model.copySwapped(1, 0, n - 1));
            everyQuestion(x, model, n);
        }
    }

    private static int statesOf(int n, int palette) {
        int states = 1;
        for (int pair = 0; pair < n * (n + 1) / 2; pair++) {
            states *= palette;
        }
        return states;
    }

    /** The digits of the state, to the base of the palette, are the colours. */
    private static void paint(TwinGraphs x, Model model, int graph, int n, int palette, int state) {
        int rest = state;
        for (int a = 0; a < n; a++) {
            for (int b = 0; b <= a; b++) {
                x.paint(graph, a, b, rest % palette);
                model.paint(graph, a, b, rest % palette);
                rest /= palette;
            }
        }
    }

    private static void everyQuestion(TwinGraphs x, Model model, int n) {
        String in = " in " + Samples.colours(x, n);
        questionsAboutBoth(x, model, n, in);
        questionsAboutEach(x, model, n, in);
        whatMustAgree(x, in);
    }

    private static void questionsAboutBoth(TwinGraphs x, Model model, int n, String in) {
        Checks.due("layings()" + in, x.layings(), model.layings(0, 1).size());
        for (int a = 0; a < n; a++) {
            Checks.due("laid(" + a + ")" + in, x.laid(a), model.laid(a));
        }
        int asked = n * n * n * n;
        for (int ask = 0; ask < asked; ask++) {
            int a = ask % n;
            int b = ask / n % n;
            int c = ask / (n * n) % n;
            int d = ask / (n * n * n);
            Checks.due("canLay(" + a + ", " + b + ", " + c + ", " + d + ")" + in,
                x.canLay(a, b, c, d), model.canLay(a, b, c, d));
        }
    }

    private static void questionsAboutEach(TwinGraphs x, Model model, int n, String in) {
        for (int graph = 0; graph < 2; graph++) {
            Checks.due("symmetries(" + graph + ")" + in, x.symmetries(graph), model.symmetries(graph));
            Checks.due("leastForm(" + graph + ")" + in, x.leastForm(graph), model.leastForm(graph));
            for (int a = 0; a < n; a++) {
                Checks.due("mirror(" + graph + ", " + a + ")" + in, x.mirror(graph, a), model.mirror(graph, a));
            }
        }
    }

    /** What follows from the document's terms without any model. */
    private static void whatMustAgree(TwinGraphs x, String in) {
        int layings = x.layings();
        boolean sameForm = x.leastForm(0) == x.leastForm(1);
        Checks.holds("the least forms agree exactly if there is a laying" + in, sameForm == (layings > 0));
        if (layings > 0) {
            Checks.due("symmetries(0) beside layings()" + in, x.symmetries(0), layings);
            Checks.due("symmetries(1) beside layings()" + in, x.symmetries(1), layings);
        }
    }
}
