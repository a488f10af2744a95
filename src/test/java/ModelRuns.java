import java.util.ArrayList;
import java.util.List;

// Long runs of calls, each answer held against a second, differently written reading of the document.
public final class ModelRuns {
    private static final int CALLS = 512;
    private static final int RUNS_OF_A_SIZE = 12;
    private static int wrong = 0;

    public static void main(String[] args) {
        int layingsSeen = 0;
        for (int n = 1; n <= 7; n++) {
            for (int run = 0; run < RUNS_OF_A_SIZE; run++) {
                layingsSeen += new Run(n, run).go();
            }
        }
        if (layingsSeen == 0) {
            wrong++;
            System.out.println("no run ever had a laying: the runs test too little");
        }
        System.out.println(wrong == 0 ? "all runs agree with the model" : wrong + " answers are not as due");
        if (wrong != 0) {
            System.exit(1);
        }
    }

    /** The document in lists of orders: slow, and with no code shared with the class. */
    private static final class Model {
        final int n;
        final int[][] colourOfPair = new int[2][64];
        final List<int[]> orders = new ArrayList<>();

        Model(int n) {
            this.n = n;
            collect(new int[n], 0);
        }

        void collect(int[] chosen, int length) {
            if (length == n) {
                orders.add(chosen.clone());
                return;
            }
            for (int point = 0; point < n; point++) {
                boolean free = true;
                for (int i = 0; i < length; i++) {
                    free &= chosen[i] != point;
                }
                if (free) {
                    chosen[length] = point;
                    collect(chosen, length + 1);
                }
            }
        }

        static int pair(int a, int b) {
            return Math.max(a, b) * 8 + Math.min(a, b);
        }

        boolean refuses(int graph, int... points) {
            boolean bad = graph != 0 && graph != 1;
            for (int point : points) {
                bad |= point < 0 || point > n - 1;
            }
            return bad;
        }

        int colour(int graph, int a, int b) {
            return refuses(graph, a, b) ? -1 : colourOfPair[graph][pair(a, b)];
        }

        int paint(int graph, int a, int b, int colour) {
            int before = colour(graph, a, b);
            if (before >= 0) {
                colourOfPair[graph][pair(a, b)] = Math.floorMod(colour, 4);
            }
            return before;
        }

        List<int[]> layings(int g, int h) {
            List<int[]> found = new ArrayList<>();
            for (int[] f : orders) {
                boolean fits = true;
                for (int a = 0; a < n && fits; a++) {
                    for (int b = 0; b < n && fits; b++) {
                        fits = colour(g, a, b) == colour(h, f[a], f[b]);
                    }
                }
                if (fits) {
                    found.add(f);
                }
            }
            return found;
        }

        int laid(int a) {
            if (refuses(0, a)) {
                return -1;
            }
            List<int[]> found = layings(0, 1);
            return found.isEmpty() ? -1 : found.get(0)[a];
        }

        int canLay(int a, int b, int c, int d) {
            if (refuses(0, a, b, c, d)) {
                return -1;
            }
            return layings(0, 1).stream().anyMatch(f -> f[a] == b && f[c] == d) ? 1 : 0;
        }

        int symmetries(int graph) {
            return refuses(graph) ? -1 : layings(graph, graph).size();
        }

        int mirror(int graph, int a) {
            return refuses(graph, a) ? -1 : layings(graph, graph).stream().mapToInt(f -> f[a]).min().getAsInt();
        }

        long leastForm(int graph) {
            if (refuses(graph)) {
                return -1;
            }
            // Rows of one length compare as texts just as they do as numbers.
            String least = null;
            for (int[] v : orders) {
                StringBuilder row = new StringBuilder();
                for (int i = 0; i < n; i++) {
                    for (int j = 0; j <= i; j++) {
                        row.append(colour(graph, v[i], v[j]));
                    }
                }
                if (least == null || row.toString().compareTo(least) < 0) {
                    least = row.toString();
                }
            }
            return Long.parseLong(least, 4);
        }

        int copySwapped(int graph, int a, int b) {
            if (refuses(graph, a, b)) {
                return -1;
            }
            for (int x = 0; x < n; x++) {
                for (int y = 0; y < n; y++) {
                    int otherX = x == a ? b : x == b ? a : x;
                    int otherY = y == a ? b : y == b ? a : y;
                    colourOfPair[graph][pair(x, y)] = colour(1 - graph, otherX, otherY);
                }
            }
            return 0;
        }
    }

    /** One object beside one model, given the same calls by a fixed sequence of numbers. */
    private static final class Run {
        final int n;
        final int run;
        final TwinGraphs x;
        final Model model;
        long seed;
        int layingsSeen = 0;

        Run(int n, int run) {
            this.n = n;
            this.run = run;
            x = new TwinGraphs(n);
            model = new Model(n);
            seed = n * 1000L + run;
        }

        int number(int bound) {
            seed = seed * 6364136223846793005L + 1442695040888963407L;
            return (int) ((seed >>> 33) % bound);
        }

        int graph() {
            return number(40) == 0 ? number(2) * 3 - 1 : number(2);
        }

        int point() {
            return number(60) == 0 ? (number(2) == 0 ? -1 - number(3) : n + number(3)) : number(n);
        }

        int colour() {
            // Few colours in some runs, so that graphs with many layings come up.
            int palette = run % 4 + 1;
            return number(10) == 0 ? number(2000) - 1000 : number(palette);
        }

        int go() {
            for (int call = 0; call < CALLS; call++) {
                step();
            }
            return layingsSeen;
        }

        void step() {
            int graph = graph();
            int a = point();
            int b = point();
            int c = point();
            int d = point();
            int colour = colour();
            String with = "(graph " + graph + ", points " + a + " " + b + " " + c + " " + d + ", colour " + colour + ")";
            switch (number(n < 6 ? 12 : 20)) {
                case 0 -> layings(with);
                case 1 -> due("laid" + with, x.laid(a), model.laid(a));
                case 2 -> due("canLay" + with, x.canLay(a, b, c, d), model.canLay(a, b, c, d));
                case 3 -> due("canLay twice a" + with, x.canLay(a, b, a, d), model.canLay(a, b, a, d));
                case 4 -> due("symmetries" + with, x.symmetries(graph), model.symmetries(graph));
                case 5 -> due("mirror" + with, x.mirror(graph, a), model.mirror(graph, a));
                case 6 -> due("leastForm" + with, x.leastForm(graph), model.leastForm(graph));
                case 7, 8, 9 -> due("copySwapped" + with, x.copySwapped(graph, a, b), model.copySwapped(graph, a, b));
                case 10 -> due("colour" + with, x.colour(graph, a, b), model.colour(graph, a, b));
                default -> due("paint" + with, x.paint(graph, a, b, colour), model.paint(graph, a, b, colour));
            }
        }

        void layings(String with) {
            int want = model.layings(0, 1).size();
            layingsSeen += want;
            due("layings" + with, x.layings(), want);
        }

        void due(String call, long got, long want) {
            if (got != want) {
                wrong++;
                System.out.println(n + " points, run " + run + ": " + call + " answered " + got + ", due is " + want);
            }
        }
    }
}
