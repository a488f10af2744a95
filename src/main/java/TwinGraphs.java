/** Two coloured graphs on the same points, and how one can be laid upon the other. */
public final class TwinGraphs {
    private static final int MOST_POINTS = 7;
    private static final int PLACES_OF_A_GRAPH = MOST_POINTS * MOST_POINTS;
    private static final int PLACES = 2 * PLACES_OF_A_GRAPH;
    private static final int COLOUR_MASK = 3;
    private static final int REFUSED = -1;
    private static final int NOWHERE = -1;

    private final int points;
    private final int orders;

    // Both {a, b} and {b, a} are held, so that no reader has to sort a pair first.
    private final int[] colours = new int[PLACES];

    // The order of the points that is being tried; only a search in progress gives it a meaning.
    private final int[] order = new int[MOST_POINTS];

    public TwinGraphs(int points) {
        int kept = points;
        if (kept < 1) {
            kept = 1;
        }
        if (kept > MOST_POINTS) {
            kept = MOST_POINTS;
        }
        this.points = kept;
        this.orders = factorial(kept);
    }

    public int paint(int graph, int a, int b, int colour) {
        if (!isPair(graph, a, b)) {
            return REFUSED;
        }
        int before = colours[place(graph, a, b)];
        setColour(graph, a, b, colour & COLOUR_MASK);
        return before;
    }

    public int colour(int graph, int a, int b) {
        if (!isPair(graph, a, b)) {
            return REFUSED;
        }
        return colours[place(graph, a, b)];
    }

    public int layings() {
        return countLayings(0, 1);
    }

    public int laid(int a) {
        if (!isPoint(a)) {
            return REFUSED;
        }
        startOrders();
        for (int tried = 0; tried < orders; tried++) {
            // Orders are tried from the least on, so the first that fits is the least laying.
            if (isLaying(0, 1)) {
                return order[a];
            }
            nextOrder();
        }
        return NOWHERE;
    }

    public int canLay(int a, int b, int c, int d) {
        if (!isPoint(a) || !isPoint(b) || !isPoint(c) || !isPoint(d)) {
            return REFUSED;
        }
        startOrders();
        for (int tried = 0; tried < orders; tried++) {
            if (order[a] == b && order[c] == d && isLaying(0, 1)) {
                return 1;
            }
            nextOrder();
        }
        return 0;
    }

    public int symmetries(int graph) {
        if (!isGraph(graph)) {
            return REFUSED;
        }
        return countLayings(graph, graph);
    }

    public int mirror(int graph, int a) {
        if (!isGraph(graph) || !isPoint(a)) {
            return REFUSED;
        }
        // Leaving every point where it is always fits, so the answer is never greater than a.
        int least = a;
        startOrders();
        for (int tried = 0; tried < orders; tried++) {
            if (order[a] < least && isLaying(graph, graph)) {
                least = order[a];
            }
            nextOrder();
        }
        return least;
    }

    public long leastForm(int graph) {
        if (!isGraph(graph)) {
            return REFUSED;
        }
        startOrders();
        long least = formOfOrder(graph);
        for (int tried = 1; tried < orders; tried++) {
            nextOrder();
            long form = formOfOrder(graph);
            if (form < least) {
                least = form;
            }
        }
        return least;
    }

    public int copySwapped(int graph, int a, int b) {
        if (!isPair(graph, a, b)) {
            return REFUSED;
        }
        int other = 1 - graph;
        startOrders();
        swapInOrder(a, b);
        for (int x = 0; x < points; x++) {
            for (int y = 0; y <= x; y++) {
                int from = place(other, order[x], order[y]);
                setColour(graph, x, y, colours[from]);
            }
        }
        return 0;
    }

    private static int factorial(int number) {
        int product = 1;
        for (int factor = 2; factor <= number; factor++) {
            product *= factor;
        }
        return product;
    }

    private static boolean isGraph(int graph) {
        return graph == 0 || graph == 1;
    }

    private boolean isPoint(int point) {
        return point >= 0 && point < points;
    }

    private boolean isPair(int graph, int a, int b) {
        return isGraph(graph) && isPoint(a) && isPoint(b);
    }

    private static int place(int graph, int a, int b) {
        return graph * PLACES_OF_A_GRAPH + a * MOST_POINTS + b;
    }

    private void setColour(int graph, int a, int b, int newColour) {
        colours[place(graph, a, b)] = newColour;
        colours[place(graph, b, a)] = newColour;
    }

    private int countLayings(int upper, int lower) {
        int count = 0;
        startOrders();
        for (int tried = 0; tried < orders; tried++) {
            if (isLaying(upper, lower)) {
                count++;
            }
            nextOrder();
        }
        return count;
    }

    private boolean isLaying(int upper, int lower) {
        for (int a = 0; a < points; a++) {
            for (int b = 0; b <= a; b++) {
                int above = colours[place(upper, a, b)];
                int below = colours[place(lower, order[a], order[b])];
                if (above != below) {
                    return false;
                }
            }
        }
        return true;
    }

    private long formOfOrder(int graph) {
        long form = 0;
        for (int i = 0; i < points; i++) {
            for (int j = 0; j <= i; j++) {
                form = form * 4 + colours[place(graph, order[i], order[j])];
            }
        }
        return form;
    }

    private void startOrders() {
        for (int i = 0; i < points; i++) {
            order[i] = i;
        }
    }

    /** Steps to the next greater order; the greatest one stays as it is. */
    private void nextOrder() {
        int rise = lastRise();
        if (rise < 0) {
            return;
        }
        int next = rise + 1;
        for (int i = rise + 2; i < points; i++) {
            // Behind the last rise the points fall, so the last greater one is the least greater one.
            if (order[i] > order[rise]) {
                next = i;
            }
        }
        swapInOrder(rise, next);
        for (int low = rise + 1, high = points - 1; low < high; low++, high--) {
            swapInOrder(low, high);
        }
    }

    private int lastRise() {
        for (int i = points - 2; i >= 0; i--) {
            if (order[i] < order[i + 1]) {
                return i;
            }
        }
        return -1;
    }

    private void swapInOrder(int i, int j) {
        int kept = order[i];
        order[i] = order[j];
        order[j] = kept;
    }
}
