// Long runs of calls, each answer held against a second, differently written reading of the document.
public final class ModelRuns {
    private static final int CALLS = 512;
    private static final int RUNS_OF_A_SIZE = 12;
    private static int layingsSeen = 0;

    public static void main(String[] args) {
        for (int n = 1; n <= 7; n++) {
            for (int run = 0; run < RUNS_OF_A_SIZE; run++) {
                Run both = new Run(n, run);
                Checks.sentence(n + " points, run " + run, both::go);
            }
        }
        Checks.holds("some run had a laying, or the runs test too little", layingsSeen > 0);
        Checks.end();
    }

    /** One object beside one model, given the same calls by a fixed sequence of numbers. */
    private static final class Run {
        final int n;
        final int run;
        final TwinGraphs x;
        final Model model;
        long seed;

        Run(int n, int run) {
            this.n = n;
            this.run = run;
            x = new TwinGraphs(n);
            model = new Model(n);
            seed = n * 1000L + run;
        }

        int number(int bound) {
            seed = seed * 6364136223846793005L + 1442695040888963407L;
            return (int) ((seed >>> 33) % bound);
        }

        int graph() {
            return number(40) == 0 ? number(2) * 3 - 1 : number(2);
        }

        int point() {
            return number(60) == 0 ? (number(2) == 0 ? -1 - number(3) : n + number(3)) : number(n);
        }

        int colour() {
            // Few colours in some runs, so that graphs with many layings come up.
            int palette = run % 4 + 1;
            return number(10) == 0 ? number(2000) - 1000 : number(palette);
        }

        void go() {
            for (int call = 0; call < CALLS; call++) {
                step();
            }
        }

        void step() {
            int graph = graph();
            int a = point();
            int b = point();
            int c = point();
            int d = point();
            int colour = colour();
            String with = "(graph " + graph + ", points " + a + " " + b + " " + c + " " + d + ", colour " + colour + ")";
            switch (number(n < 6 ? 12 : 20)) {
                case 0 -> layings(with);
                case 1 -> Checks.due("laid" + with, x.laid(a), model.laid(a));
                case 2 -> Checks.due("canLay" + with, x.canLay(a, b, c, d), model.canLay(a, b, c, d));
                case 3 -> Checks.due("canLay twice a" + with, x.canLay(a, b, a, d), model.canLay(a, b, a, d));
                case 4 -> Checks.due("symmetries" + with, x.symmetries(graph), model.symmetries(graph));
                case 5 -> Checks.due("mirror" + with, x.mirror(graph, a), model.mirror(graph, a));
                case 6 -> Checks.due("leastForm" + with, x.leastForm(graph), model.leastForm(graph));
                case 7, 8, 9 -> Checks.due("copySwapped" + with, x.copySwapped(graph, a, b), model.copySwapped(graph, a, b));
                case 10 -> Checks.due("colour" + with, x.colour(graph, a, b), model.colour(graph, a, b));
                default -> Checks.due("paint" + with, x.paint(graph, a, b, colour), model.paint(graph, a, b, colour));
            }
        }

        void layings(String with) {
            int want = model.layings(0, 1).size();
            layingsSeen += want;
            Checks.due("layings" + with, x.layings(), want);
        }
    }
}
