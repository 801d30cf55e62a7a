import java.util.Arrays;
import java.util.NoSuchElementException;

/**
 * A web of arrows among sixteen places, and what can be told of it.
 *
 * A set of places is an int throughout: bit p is set when place p is in it. Every row is made
 * once, in a constructor, and used again, so that no call makes an object.
 */
public final class ArcAtlas {
    private static final int PLACES = 16;
    private static final int MOST_ARROWS = 80;
    private static final int NONE = -1;

    private final Web web;
    private final Groups groups;
    private final Ways ways;
    private final Flow flow;

    public ArcAtlas() {
        web = new Web();
        groups = new Groups();
        ways = new Ways();
        flow = new Flow();
    }

    public boolean add(int u, int v) throws IllegalArgumentException, IllegalStateException {
        requirePlaces(u, v);
        if (u == v) {
            throw new IllegalArgumentException("an arrow leads to another place");
        }
        if (web.holds(u, v)) {
            return false;
        }
        if (web.count() >= MOST_ARROWS) {
            throw new IllegalStateException("there are 80 arrows");
        }
        web.put(u, v);
        return true;
    }

    public boolean remove(int u, int v) throws IllegalArgumentException {
        requirePlaces(u, v);
        if (!web.holds(u, v)) {
            return false;
        }
        web.take(u, v);
        return true;
    }

    public int clear() {
        int taken = web.count();
        web.takeAll();
        return taken;
    }

    public int group(int v) throws IllegalArgumentException {
        requirePlace(v);
        groups.read(web);
        return groups.nameOf(v);
    }

    public int members(int v) throws IllegalArgumentException {
        requirePlace(v);
        groups.read(web);
        return groups.sizeOf(v);
    }

    public int rank(int v) throws IllegalArgumentException {
        requirePlace(v);
        groups.read(web);
        return groups.positionOf(v);
    }

    public int ranked(int k) throws IndexOutOfBoundsException {
        groups.read(web);
        if (k < 0 || k >= groups.count()) {
            throw new IndexOutOfBoundsException("the order has no such group");
        }
        return groups.nameAt(k);
    }

    public boolean reaches(int u, int v) throws IllegalArgumentException {
        requirePlaces(u, v);
        return has(web.spread(only(u), 0), v);
    }

    public int distance(int u, int v) throws IllegalArgumentException {
        requirePlaces(u, v);
        ways.readTo(v, web);
        return ways.lengthFrom(u);
    }

    public int way(int u, int v, int i)
            throws IllegalArgumentException, NoSuchElementException, IndexOutOfBoundsException {
        requirePlaces(u, v);
        ways.readTo(v, web);
        int length = ways.lengthFrom(u);
        if (length == NONE) {
            throw new NoSuchElementException("there is no way");
        }
        if (i < 0 || i > length) {
            throw new IndexOutOfBoundsException("the way has no such place");
        }
        return ways.placeOnFirst(u, length, i, web);
    }

    public int gate(int r, int v) throws IllegalArgumentException, NoSuchElementException {
        requirePlaces(r, v);
        if (r == v) {
            return NONE;
        }
        if (!has(web.spread(only(r), 0), v)) {
            throw new NoSuchElementException("there is no way");
        }
        return lastBefore(r, v);
    }

    public int gated(int r, int d) throws IllegalArgumentException {
        requirePlaces(r, d);
        int reached = web.spread(only(r), 0);
        int reachedWithout = web.spread(only(r), only(d));
        return Integer.bitCount(reached & ~reachedWithout);
    }

    public int places(int u, int v) throws IllegalArgumentException {
        requirePlaces(u, v);
        if (u == v || web.holds(u, v)) {
            return NONE;
        }
        flow.readPlaces(web);
        return flow.most(Flow.exitOf(u), v);
    }

    public int arrows(int u, int v) throws IllegalArgumentException {
        requirePlaces(u, v);
        if (u == v) {
            return NONE;
        }
        flow.readArrows(web);
        return flow.most(u, v);
    }

    public int figure(int k) throws IllegalArgumentException {
        if (k < 0 || k > 5) {
            throw new IllegalArgumentException("there is no such figure");
        }
        if (k == 0) {
            return web.count();
        }
        if (k == 5) {
            return neededArrows();
        }
        groups.read(web);
        switch (k) {
            case 1:
                return groups.count();
            case 2:
                return groups.pairs();
            case 3:
                return groups.pairsWithoutDetour();
            default:
                return groups.longestChain();
        }
    }

    private static void requirePlaces(int u, int v) {
        requirePlace(u);
        requirePlace(v);
    }

    private static void requirePlace(int p) {
        if (p < 0 || p >= PLACES) {
            throw new IllegalArgumentException("a place is 0 .. 15");
        }
    }

    private static int only(int place) {
        return 1 << place;
    }

    private static boolean has(int set, int place) {
        return (set >>> place & 1) != 0;
    }

    /** The last place before v that every way from r to v passes; r reaches v and is another place. */
    private int lastBefore(int r, int v) {
        int passed = 0;
        for (int d = 0; d < PLACES; d++) {
            if (d != v && !has(web.spread(only(r), only(d)), v)) {
                passed |= only(d);
            }
        }
        for (int d = 0; d < PLACES; d++) {
            if (has(passed, d) && needsAll(r, d, passed & ~only(d))) {
                return d;
            }
        }
        return r;
    }

    private boolean needsAll(int r, int d, int others) {
        for (int e = 0; e < PLACES; e++) {
            if (has(others, e) && has(web.spread(only(r), only(e)), d)) {
                return false;
            }
        }
        return true;
    }

    private int neededArrows() {
        int needed = 0;
        for (int u = 0; u < PLACES; u++) {
            for (int v = 0; v < PLACES; v++) {
                if (web.holds(u, v) && !hasDetour(u, v)) {
                    needed++;
                }
            }
        }
        return needed;
    }

    // An arrow is missed by some place just when its own start misses its end; and a way that
    // comes back to u can be begun there, so u may be closed behind the first step.
    private boolean hasDetour(int u, int v) {
        return has(web.spread(web.headsOf(u) & ~only(v), only(u)), v);
    }

    /** The arrows, as the set of heads of each place. */
    private static final class Web {
        private final int[] heads;
        private int count;

        Web() {
            heads = new int[PLACES];
            count = 0;
        }

        int count() {
            return count;
        }

        int headsOf(int u) {
            return heads[u];
        }

        boolean holds(int u, int v) {
            return has(heads[u], v);
        }

        void put(int u, int v) {
            heads[u] |= only(v);
            count++;
        }

        void take(int u, int v) {
            heads[u] &= ~only(v);
            count--;
        }

        void takeAll() {
            Arrays.fill(heads, 0);
            count = 0;
        }

        /** All places that a place of the set starts reaches by ways without a closed place. */
        int spread(int starts, int closed) {
            int seen = starts & ~closed;
            for (int length = 1; length < PLACES; length++) {
                int more = seen | headsOfAll(seen) & ~closed;
                if (more == seen) {
                    break;
                }
                seen = more;
            }
            return seen;
        }

        private int headsOfAll(int tails) {
            int all = 0;
            for (int u = 0; u < PLACES; u++) {
                if (has(tails, u)) {
                    all |= heads[u];
                }
            }
            return all;
        }
    }

    /** The groups of a web and their order; sets of groups are sets of their names. */
    private static final class Groups {
        private final int[] reached;
        private final int[] names;
        private final int[] ledTo;
        private final int[] before;
        private final int[] order;
        private final int[] chain;
        private int count;

        Groups() {
            reached = new int[PLACES];
            names = new int[PLACES];
            ledTo = new int[PLACES];
            before = new int[PLACES];
            order = new int[PLACES];
            chain = new int[PLACES];
            count = 0;
        }

        void read(Web web) {
            readReached(web);
            readNames();
            readLeads(web);
            readOrder();
        }

        int count() {
            return count;
        }

        int nameOf(int v) {
            return names[v];
        }

        int nameAt(int k) {
            return order[k];
        }

        int sizeOf(int v) {
            int size = 0;
            for (int w = 0; w < PLACES; w++) {
                if (names[w] == names[v]) {
                    size++;
                }
            }
            return size;
        }

        int positionOf(int v) {
            int position = 0;
            for (int k = 0; k < count; k++) {
                if (order[k] == names[v]) {
                    position = k;
                }
            }
            return position;
        }

        int pairs() {
            int pairs = 0;
            for (int g = 0; g < PLACES; g++) {
                pairs += Integer.bitCount(ledTo[g]);
            }
            return pairs;
        }

        int pairsWithoutDetour() {
            int pairs = 0;
            for (int g = 0; g < PLACES; g++) {
                for (int h = 0; h < PLACES; h++) {
                    if (has(ledTo[g], h) && !reachedFromOneOf(ledTo[g] & ~only(h), h)) {
                        pairs++;
                    }
                }
            }
            return pairs;
        }

        int longestChain() {
            int longest = 0;
            for (int k = 0; k < count; k++) {
                int g = order[k];
                chain[g] = 1 + longestOf(before[g]);
                longest = Math.max(longest, chain[g]);
            }
            return longest;
        }

        private int longestOf(int some) {
            int longest = 0;
            for (int g = 0; g < PLACES; g++) {
                if (has(some, g)) {
                    longest = Math.max(longest, chain[g]);
                }
            }
            return longest;
        }

        private boolean reachedFromOneOf(int some, int h) {
            for (int g = 0; g < PLACES; g++) {
                if (has(some, g) && has(reached[g], h)) {
                    return true;
                }
            }
            return false;
        }

        private void readReached(Web web) {
            for (int u = 0; u < PLACES; u++) {
                reached[u] = only(u) | web.headsOf(u);
            }
            for (int middle = 0; middle < PLACES; middle++) {
                for (int u = 0; u < PLACES; u++) {
                    if (has(reached[u], middle)) {
                        reached[u] |= reached[middle];
                    }
                }
            }
        }

        private void readNames() {
            count = 0;
            for (int v = 0; v < PLACES; v++) {
                names[v] = leastWith(v);
                if (names[v] == v) {
                    count++;
                }
            }
        }

        private int leastWith(int v) {
            for (int w = 0; w < v; w++) {
                if (has(reached[v], w) && has(reached[w], v)) {
                    return w;
                }
            }
            return v;
        }

        private void readLeads(Web web) {
            Arrays.fill(ledTo, 0);
            Arrays.fill(before, 0);
            for (int u = 0; u < PLACES; u++) {
                for (int v = 0; v < PLACES; v++) {
                    if (web.holds(u, v) && names[u] != names[v]) {
                        ledTo[names[u]] |= only(names[v]);
                        before[names[v]] |= only(names[u]);
                    }
                }
            }
        }

        private void readOrder() {
            int placed = 0;
            for (int k = 0; k < count; k++) {
                order[k] = leastFree(placed);
                placed |= only(order[k]);
            }
        }

        // Groups lead round to no group again, so there is a free one while one is not placed.
        private int leastFree(int placed) {
            for (int g = 0; g < PLACES; g++) {
                if (names[g] == g && !has(placed, g) && (before[g] & ~placed) == 0) {
                    return g;
                }
            }
            return 0;
        }
    }

    /** The shortest ways of a web to one place. */
    private static final class Ways {
        /** layers[n]: the places that have a way of length n to that place, shorter ones or not. */
        private final int[] layers;

        Ways() {
            layers = new int[PLACES];
        }

        void readTo(int end, Web web) {
            layers[0] = only(end);
            for (int length = 1; length < PLACES; length++) {
                layers[length] = tailsInto(layers[length - 1], web);
            }
        }

        int lengthFrom(int u) {
            for (int length = 0; length < PLACES; length++) {
                if (has(layers[length], u)) {
                    return length;
                }
            }
            return NONE;
        }

        // On a shortest way no place has a shorter way to the end than the rest of this one, so
        // the layer of that rest holds just the places by which a shortest way can go on.
        int placeOnFirst(int u, int length, int i, Web web) {
            int here = u;
            for (int step = 1; step <= i && step <= length; step++) {
                here = least(web.headsOf(here) & layers[length - step]);
            }
            return here;
        }

        private static int least(int set) {
            for (int p = 0; p < PLACES; p++) {
                if (has(set, p)) {
                    return p;
                }
            }
            return 0;
        }

        private static int tailsInto(int ends, Web web) {
            int tails = 0;
            for (int u = 0; u < PLACES; u++) {
                if ((web.headsOf(u) & ends) != 0) {
                    tails |= only(u);
                }
            }
            return tails;
        }
    }

    /**
     * The most that flows from one knot to another when each line carries one at most: by the
     * theorem of flows and cuts, just as many lines part the two.
     */
    private static final class Flow {
        private static final int KNOTS = 2 * PLACES;

        /** lines[a]: the knots to which a line leads from a. */
        private final int[] lines;
        /** used[a]: those of them to which something flows. */
        private final int[] used;
        /** fed[a]: the knots from which something flows to a. */
        private final int[] fed;
        private final int[] cameFrom;

        Flow() {
            lines = new int[KNOTS];
            used = new int[KNOTS];
            fed = new int[KNOTS];
            cameFrom = new int[KNOTS];
        }

        /** Each place is a knot, each arrow a line; no line leads to the exits, whatever theirs are. */
        void readArrows(Web web) {
            for (int p = 0; p < PLACES; p++) {
                lines[p] = web.headsOf(p);
            }
        }

        /** Each place is an entry and an exit with one line between them, which a cut takes away. */
        void readPlaces(Web web) {
            for (int p = 0; p < PLACES; p++) {
                lines[p] = only(exitOf(p));
                lines[exitOf(p)] = web.headsOf(p);
            }
        }

        static int exitOf(int place) {
            return place + PLACES;
        }

        int most(int from, int to) {
            Arrays.fill(used, 0);
            Arrays.fill(fed, 0);
            int amount = 0;
            for (int round = 0; round < PLACES; round++) {
                if (!findMore(from, to)) {
                    break;
                }
                pushOne(from, to);
                amount++;
            }
            return amount;
        }

        /** Looks for a way on which one more can flow; cameFrom then tells it from its end. */
        private boolean findMore(int from, int to) {
            int seen = only(from);
            int newest = seen;
            for (int round = 0; round < KNOTS && newest != 0 && !has(seen, to); round++) {
                int front = newest;
                newest = 0;
                for (int a = 0; a < KNOTS; a++) {
                    if (has(front, a)) {
                        int fresh = (lines[a] & ~used[a] | fed[a]) & ~seen;
                        seen |= fresh;
                        newest |= fresh;
                        markFrom(a, fresh);
                    }
                }
            }
            return has(seen, to);
        }

        private void markFrom(int a, int fresh) {
            for (int b = 0; b < KNOTS; b++) {
                if (has(fresh, b)) {
                    cameFrom[b] = a;
                }
            }
        }

        private void pushOne(int from, int to) {
            int b = to;
            for (int step = 0; step < KNOTS && b != from; step++) {
                int a = cameFrom[b];
                pushOver(a, b);
                b = a;
            }
        }

        // What flows back is taken away first: of two lines that lead to and fro, one stays free.
        private void pushOver(int a, int b) {
            if (has(fed[a], b)) {
                fed[a] &= ~only(b);
                used[b] &= ~only(a);
            } else {
                used[a] |= only(b);
                fed[b] |= only(a);
            }
        }
    }
}
