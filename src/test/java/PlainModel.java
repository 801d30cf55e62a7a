import java.util.ArrayDeque;
import java.util.ArrayList;
import java.util.Arrays;
import java.util.List;
import java.util.NoSuchElementException;

/**
 * What the document says, written down as slowly and as near to its words as will do, and by
 * other means than the class: the tests hold the class against it.
 */
public final class PlainModel {
    private static final int N = 16;

    private final boolean[][] arrow = new boolean[N][N];

    public boolean add(int u, int v) {
        place(u);
        place(v);
        if (u == v) {
            throw new IllegalArgumentException();
        }
        if (arrow[u][v]) {
            return false;
        }
        if (figure(0) == 80) {
            throw new IllegalStateException();
        }
        arrow[u][v] = true;
        return true;
    }

    public boolean remove(int u, int v) {
        place(u);
        place(v);
        boolean was = arrow[u][v];
        arrow[u][v] = false;
        return was;
    }

    public int clear() {
        int were = figure(0);
        for (boolean[] row : arrow) {
            Arrays.fill(row, false);
        }
        return were;
    }

    public int group(int v) {
        place(v);
        return groupOf(v).get(0);
    }

    public int members(int v) {
        place(v);
        return groupOf(v).size();
    }

    public int rank(int v) {
        place(v);
        return order().indexOf(group(v));
    }

    public int ranked(int k) {
        List<Integer> order = order();
        if (k < 0 || k >= order.size()) {
            throw new IndexOutOfBoundsException();
        }
        return order.get(k);
    }

    public boolean reaches(int u, int v) {
        place(u);
        place(v);
        return closure(arrow)[u][v];
    }

    public int distance(int u, int v) {
        place(u);
        place(v);
        return firstWay(u, v).size() - 1;
    }

    public int way(int u, int v, int i) {
        place(u);
        place(v);
        List<Integer> way = firstWay(u, v);
        if (way.isEmpty()) {
            throw new NoSuchElementException();
        }
        if (i < 0 || i >= way.size()) {
            throw new IndexOutOfBoundsException();
        }
        return way.get(i);
    }

    public int gate(int r, int v) {
        place(r);
        place(v);
        if (!closure(arrow)[r][v]) {
            throw new NoSuchElementException();
        }
        int[] needs = needs(r);
        for (int d = 0; d < N; d++) {
            if (d != v && needs[d] == (needs[v] & ~(1 << v)) && (needs[v] >> d & 1) == 1) {
                return d;
            }
        }
        return -1;
    }

    public int gated(int r, int d) {
        place(r);
        place(d);
        boolean[][] reached = closure(arrow);
        int[] needs = needs(r);
        int dependent = 0;
        for (int v = 0; v < N; v++) {
            if (reached[r][v] && (needs[v] >> d & 1) == 1) {
                dependent++;
            }
        }
        return dependent;
    }

    /** Tries every set of other places. */
    public int places(int u, int v) {
        place(u);
        place(v);
        if (u == v || arrow[u][v]) {
            return -1;
        }
        int least = N;
        for (int set = 0; set < 1 << N; set++) {
            boolean others = (set >> u & 1) == 0 && (set >> v & 1) == 0;
            if (others && Integer.bitCount(set) < least && !reachesWithout(u, v, set)) {
                least = Integer.bitCount(set);
            }
        }
        return least;
    }

    /** u does not reach v just when no arrow leads out of some set with u and without v. */
    public int arrows(int u, int v) {
        place(u);
        place(v);
        if (u == v) {
            return -1;
        }
        int least = N;
        for (int set = 0; set < 1 << N; set++) {
            if ((set >> u & 1) == 1 && (set >> v & 1) == 0) {
                least = Math.min(least, arrowsOutOf(set));
            }
        }
        return least;
    }

    public int figure(int k) {
        switch (k) {
            case 0:
                return arrowRow().size();
            case 1:
                return names().size();
            case 2:
                return pairs().size();
            case 3:
                return (int) pairs().stream().filter(p -> onlySo(p[0], p[1])).count();
            case 4:
                return names().stream().mapToInt(this::groupsFrom).max().orElse(0);
            case 5:
                return (int) arrowRow().stream().filter(a -> matters(a[0], a[1])).count();
            default:
                throw new IllegalArgumentException();
        }
    }

    private static void place(int p) {
        if (p < 0 || p >= N) {
            throw new IllegalArgumentException();
        }
    }

    private static boolean[][] closure(boolean[][] web) {
        boolean[][] reached = new boolean[N][N];
        for (int u = 0; u < N; u++) {
            visit(web, u, reached[u]);
        }
        return reached;
    }

    private static void visit(boolean[][] web, int here, boolean[] seen) {
        seen[here] = true;
        for (int v = 0; v < N; v++) {
            if (web[here][v] && !seen[v]) {
                visit(web, v, seen);
            }
        }
    }

    private boolean reachesWithout(int u, int v, int set) {
        boolean[] seen = new boolean[N];
        for (int p = 0; p < N; p++) {
            seen[p] = (set >> p & 1) == 1;
        }
        visit(arrow, u, seen);
        return seen[v];
    }

    private int arrowsOutOf(int set) {
        int out = 0;
        for (int a = 0; a < N; a++) {
            for (int b = 0; (set >> a & 1) == 1 && b < N; b++) {
                if (arrow[a][b] && (set >> b & 1) == 0) {
                    out++;
                }
            }
        }
        return out;
    }

    private List<int[]> arrowRow() {
        List<int[]> row = new ArrayList<>();
        for (int u = 0; u < N; u++) {
            for (int v = 0; v < N; v++) {
                if (arrow[u][v]) {
                    row.add(new int[] {u, v});
                }
            }
        }
        return row;
    }

    private List<Integer> groupOf(int v) {
        boolean[][] reached = closure(arrow);
        List<Integer> group = new ArrayList<>();
        for (int w = 0; w < N; w++) {
            if (reached[v][w] && reached[w][v]) {
                group.add(w);
            }
        }
        return group;
    }

    private List<Integer> names() {
        List<Integer> names = new ArrayList<>();
        for (int v = 0; v < N; v++) {
            if (group(v) == v) {
                names.add(v);
            }
        }
        return names;
    }

    private boolean leads(int g, int h) {
        for (int u : groupOf(g)) {
            for (int v : groupOf(h)) {
                if (g != h && arrow[u][v]) {
                    return true;
                }
            }
        }
        return false;
    }

    private List<int[]> pairs() {
        List<int[]> pairs = new ArrayList<>();
        for (int g : names()) {
            for (int h : names()) {
                if (leads(g, h)) {
                    pairs.add(new int[] {g, h});
                }
            }
        }
        return pairs;
    }

    private List<Integer> order() {
        List<int[]> pairs = pairs();
        List<Integer> left = names();
        List<Integer> order = new ArrayList<>();
        while (!left.isEmpty()) {
            Integer next = left.stream()
                    .filter(g -> pairs.stream().allMatch(p -> p[1] != g || order.contains(p[0])))
                    .findFirst().orElseThrow();
            left.remove(next);
            order.add(next);
        }
        return order;
    }

    /** Places met in the row of the first ways to them; no place at all when v is not reached. */
    private List<Integer> firstWay(int u, int v) {
        List<List<Integer>> ways = new ArrayList<>();
        for (int p = 0; p < N; p++) {
            ways.add(new ArrayList<>());
        }
        ways.get(u).add(u);
        ArrayDeque<Integer> waiting = new ArrayDeque<>(List.of(u));
        while (!waiting.isEmpty()) {
            int here = waiting.remove();
            for (int next = 0; next < N; next++) {
                if (arrow[here][next] && ways.get(next).isEmpty()) {
                    ways.get(next).addAll(ways.get(here));
                    ways.get(next).add(next);
                    waiting.add(next);
                }
            }
        }
        return ways.get(v);
    }

    /** For each place the set of those that all ways to it from r pass: what all its tails share. */
    private int[] needs(int r) {
        int[] needs = new int[N];
        Arrays.fill(needs, (1 << N) - 1);
        needs[r] = 1 << r;
        boolean[][] reached = closure(arrow);
        for (boolean changed = true; changed;) {
            changed = false;
            for (int[] a : arrowRow()) {
                int shared = needs[a[1]] & (needs[a[0]] | 1 << a[1]);
                if (reached[r][a[0]] && shared != needs[a[1]]) {
                    needs[a[1]] = shared;
                    changed = true;
                }
            }
        }
        return needs;
    }

    private boolean onlySo(int g, int h) {
        PlainModel without = copy();
        for (int u : groupOf(g)) {
            for (int v : groupOf(h)) {
                without.arrow[u][v] = false;
            }
        }
        return !without.reaches(g, h);
    }

    private int groupsFrom(int g) {
        int most = 0;
        for (int[] p : pairs()) {
            if (p[0] == g) {
                most = Math.max(most, groupsFrom(p[1]));
            }
        }
        return most + 1;
    }

    private boolean matters(int u, int v) {
        PlainModel without = copy();
        without.arrow[u][v] = false;
        return !Arrays.deepEquals(closure(without.arrow), closure(arrow));
    }

    private PlainModel copy() {
        PlainModel copy = new PlainModel();
        for (int u = 0; u < N; u++) {
            copy.arrow[u] = arrow[u].clone();
        }
        return copy;
    }
}
