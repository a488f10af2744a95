// Objects to test with, made by paint alone, and what can be seen of an object.
final class Samples {
    static final int[] WRONG_GRAPHS = {-1, -2, 2, 3, 256, Integer.MIN_VALUE, Integer.MAX_VALUE};
    static final int[] FACTORIAL = {1, 1, 2, 6, 24, 120, 720, 5040};

    /** On fewer than 7 points some of these would still fall inside an array for 7. */
    static int[] wrongPoints(int n) {
        return new int[] {-1, -2, -7, n, n + 1, 7, 8, 49, 1 << 30, Integer.MIN_VALUE, Integer.MAX_VALUE};
    }

    static void paintPoints(TwinGraphs x, int graph, int... colours) {
        for (int a = 0; a < colours.length; a++) {
            x.paint(graph, a, a, colours[a]);
        }
    }

    static void paintPath(TwinGraphs x, int graph, int colour, int... path) {
        for (int i = 0; i + 1 < path.length; i++) {
            x.paint(graph, path[i], path[i + 1], colour);
        }
    }

    static void paintAll(TwinGraphs x, int graph, int n, int pointColour, int pairColour) {
        for (int a = 0; a < n; a++) {
            for (int b = 0; b <= a; b++) {
                x.paint(graph, a, b, a == b ? pointColour : pairColour);
            }
        }
    }

    /** A path with a marked end: no laying upon itself but the one that leaves every point where it is. */
    static void paintRigid(TwinGraphs x, int graph, int... path) {
        x.paint(graph, path[0], path[0], 1);
        paintPath(x, graph, 2, path);
    }

    static int[] upwards(int n) {
        int[] path = new int[n];
        for (int i = 0; i < n; i++) {
            path[i] = i;
        }
        return path;
    }

    static int[] downwards(int n) {
        int[] path = new int[n];
        for (int i = 0; i < n; i++) {
            path[i] = n - 1 - i;
        }
        return path;
    }

    /** The only laying lays a on n-1-a; nothing has colour 3. */
    static TwinGraphs twins(int n) {
        TwinGraphs x = new TwinGraphs(n);
        paintRigid(x, 0, upwards(n));
        paintRigid(x, 1, downwards(n));
        return x;
    }

    /** No laying; every pair and point has another colour in graph 1 than any of its kind in graph 0; none has 3. */
    static TwinGraphs strangers(int n) {
        TwinGraphs x = new TwinGraphs(n);
        paintRigid(x, 0, upwards(n));
        paintAll(x, 1, n, 2, 1);
        return x;
    }

    static String colours(TwinGraphs x, int n) {
        StringBuilder all = new StringBuilder();
        for (int graph = 0; graph < 2; graph++) {
            for (int a = 0; a < n; a++) {
                for (int b = 0; b < n; b++) {
                    all.append(x.colour(graph, a, b));
                }
                all.append(' ');
            }
        }
        return all.toString();
    }

    /** Every colour, and what the questions answer, so that a change that no colour shows would show too. */
    static String state(TwinGraphs x, int n) {
        StringBuilder all = new StringBuilder(colours(x, n));
        all.append("layings ").append(x.layings()).append(" laid");
        for (int a = 0; a < n; a++) {
            all.append(' ').append(x.laid(a)).append('/').append(x.canLay(a, n - 1 - a, a, n - 1 - a));
        }
        for (int graph = 0; graph < 2; graph++) {
            all.append(" symmetries ").append(x.symmetries(graph)).append(" mirror");
            for (int a = 0; a < n; a++) {
                all.append(' ').append(x.mirror(graph, a));
            }
            all.append(" form ").append(x.leastForm(graph));
        }
        return all.toString();
    }
}
