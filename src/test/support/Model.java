import java.util.ArrayList;
import java.util.List;

// The document in lists of orders: slow, and with no code shared with the class.
final class Model {
    final int n;
    final int[][] colourOfPair = new int[2][64];
    final List<int[]> orders = new ArrayList<>();

    Model(int n) {
        this.n = n;
        collect(new int[n], 0);
    }

    void collect(int[] chosen, int length) {
        if (length == n) {
            orders.add(chosen.clone());
            return;
        }
        for (int point = 0; point < n; point++) {
            boolean free = true;
            for (int i = 0; i < length; i++) {
                free &= chosen[i] != point;
            }
            if (free) {
                chosen[length] = point;
                collect(chosen, length + 1);
            }
        }
    }

    static int pair(int a, int b) {
        return Math.max(a, b) * 8 + Math.min(a, b);
    }

    boolean refuses(int graph, int... points) {
        boolean bad = graph != 0 && graph != 1;
        for (int point : points) {
            bad |= point < 0 || point > n - 1;
        }
        return bad;
    }

    int colour(int graph, int a, int b) {
        return refuses(graph, a, b) ? -1 : colourOfPair[graph][pair(a, b)];
    }

    int paint(int graph, int a, int b, int colour) {
        int before = colour(graph, a, b);
        if (before >= 0) {
            colourOfPair[graph][pair(a, b)] = Math.floorMod(colour, 4);
        }
        return before;
    }

    List<int[]> layings(int g, int h) {
        List<int[]> found = new ArrayList<>();
        for (int[] f : orders) {
            boolean fits = true;
            for (int a = 0; a < n && fits; a++) {
                for (int b = 0; b < n && fits; b++) {
                    fits = colour(g, a, b) == colour(h, f[a], f[b]);
                }
            }
            if (fits) {
                found.add(f);
            }
        }
        return found;
    }

    int laid(int a) {
        if (refuses(0, a)) {
            return -1;
        }
        List<int[]> found = layings(0, 1);
        return found.isEmpty() ? -1 : found.get(0)[a];
    }

    int canLay(int a, int b, int c, int d) {
        if (refuses(0, a, b, c, d)) {
            return -1;
        }
        return layings(0, 1).stream().anyMatch(f -> f[a] == b && f[c] == d) ? 1 : 0;
    }

    int symmetries(int graph) {
        return refuses(graph) ? -1 : layings(graph, graph).size();
    }

    int mirror(int graph, int a) {
        return refuses(graph, a) ? -1 : layings(graph, graph).stream().mapToInt(f -> f[a]).min().getAsInt();
    }

    long leastForm(int graph) {
        if (refuses(graph)) {
            return -1;
        }
        // Rows of one length compare as texts just as they do as numbers.
        String least = null;
        for (int[] v : orders) {
            StringBuilder row = new StringBuilder();
            for (int i = 0; i < n; i++) {
                for (int j = 0; j <= i; j++) {
                    row.append(colour(graph, v[i], v[j]));
                }
            }
            if (least == null || row.toString().compareTo(least) < 0) {
                least = row.toString();
            }
        }
        return Long.parseLong(least, 4);
    }

    int copySwapped(int graph, int a, int b) {
        if (refuses(graph, a, b)) {
            return -1;
        }
        for (int x = 0; x < n; x++) {
            for (int y = 0; y < n; y++) {
                int otherX = x == a ? b : x == b ? a : x;
                int otherY = y == a ? b : y == b ? a : y;
                colourOfPair[graph][pair(x, y)] = colour(1 - graph, otherX, otherY);
            }
        }
        return 0;
    }
}
