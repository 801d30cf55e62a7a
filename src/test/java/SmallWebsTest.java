import java.util.ArrayList;
import java.util.List;
import java.util.NoSuchElementException;

/**
 * Promises 5 to 16 for every web there is of four places: each of the 4,096 is held against the
 * document's words taken one by one, over a list of all rows of places that can be ways.
 */
public final class SmallWebsTest {
    private static final Checks CHECKS = new Checks("promises 5 to 16, all webs of four places");

    /** Out of order and apart, with the first and the last place; the twelve others stay alone. */
    private static final int[] FOUR = {9, 0, 15, 6};
    private static final int WEBS = 1 << 12;

    /** A row of places without one that comes twice, and the set of arrows that make it a way. */
    private record Row(List<Integer> places, int arrows) {
        boolean isWay(int web) {
            return (web & arrows) == arrows;
        }

        int length() {
            return places.size() - 1;
        }
    }

    // A way that passes a place twice is a way without the round between, with no other place or
    // arrow in it, so that no answer needs such ways.
    private static final List<List<Row>> ROWS = rows();
    private static final boolean[][] REACHED = new boolean[WEBS][256];

    public static void main(String[] args) {
        for (int web = 0; web < WEBS; web++) {
            for (int pair = 0; pair < 256; pair++) {
                int w = web;
                REACHED[web][pair] = ROWS.get(pair).stream().anyMatch(row -> row.isWay(w));
            }
        }
        for (int web = 0; web < WEBS; web++) {
            new SmallWebsTest(web).check();
        }
        CHECKS.finish();
    }

    private final int web;
    private final ArcAtlas x = new ArcAtlas();
    private final int[] names = new int[16];

    private SmallWebsTest(int web) {
        this.web = web;
        for (int arrow = 0; arrow < 12; arrow++) {
            if (has(arrow)) {
                x.add(tail(arrow), head(arrow));
            }
        }
        for (int p = 15; p >= 0; p--) {
            for (int q = 15; q >= 0; q--) {
                names[p] = together(p, q) ? q : names[p];
            }
        }
    }

    private void check() {
        checkGroups();
        checkFigures();
        for (int u : FOUR) {
            for (int v : FOUR) {
                checkWays(u, v);
                due("gated", u, v, x.gated(u, v), gated(u, v));
                due("places", u, v, x.places(u, v), u == v || arrowLeads(u, v) ? -1 : placesThatPart(u, v));
                due("arrows", u, v, x.arrows(u, v), u == v ? -1 : arrowsThatPart(u, v));
            }
        }
    }

    private void due(String call, int u, int v, Object got, Object want) {
        CHECKS.due("web " + web + ", " + call + "(" + u + ", " + v + ")", got, want);
    }

    private void checkGroups() {
        List<Integer> order = order();
        for (int p = 0; p < 16; p++) {
            CHECKS.due("web " + web + ", group(" + p + ")", x.group(p), names[p]);
            CHECKS.due("web " + web + ", members(" + p + ")", x.members(p), members(p));
            CHECKS.due("web " + web + ", rank(" + p + ")", x.rank(p), order.indexOf(names[p]));
        }
        for (int k = 0; k < order.size(); k++) {
            CHECKS.due("web " + web + ", ranked(" + k + ")", x.ranked(k), order.get(k));
        }
        CHECKS.refused("web " + web + ", ranked behind the order", IndexOutOfBoundsException.class,
                () -> x.ranked(order.size()));
    }

    private void checkFigures() {
        int groups = order().size();
        int pairs = 0;
        int onlySo = 0;
        for (int g = 0; g < 16; g++) {
            for (int h = 0; h < 16; h++) {
                int between = arrowsBetween(g, h);
                pairs += between != 0 ? 1 : 0;
                onlySo += between != 0 && !REACHED[web & ~between][16 * g + h] ? 1 : 0;
            }
        }
        int[] due = {Integer.bitCount(web), groups, pairs, onlySo, mostGroups(), arrowsThatMatter()};
        for (int k = 0; k < due.length; k++) {
            CHECKS.due("web " + web + ", figure(" + k + ")", x.figure(k), due[k]);
        }
    }

    private void checkWays(int u, int v) {
        List<Integer> first = firstWay(u, v);
        due("reaches", u, v, x.reaches(u, v), reaches(u, v));
        due("distance", u, v, x.distance(u, v), first.size() - 1);
        for (int i = 0; i < first.size(); i++) {
            due("way, place " + i + " of ", u, v, x.way(u, v, i), first.get(i));
        }
        if (reaches(u, v)) {
            CHECKS.refused("web " + web + ", way behind its end", IndexOutOfBoundsException.class,
                    () -> x.way(u, v, first.size()));
            due("gate", u, v, x.gate(u, v), gate(u, v));
        } else {
            CHECKS.refused("web " + web + ", way", NoSuchElementException.class, () -> x.way(u, v, 0));
            CHECKS.refused("web " + web + ", gate", NoSuchElementException.class, () -> x.gate(u, v));
        }
    }

    private boolean has(int arrow) {
        return (web >> arrow & 1) == 1;
    }

    private boolean arrowLeads(int u, int v) {
        return has(arrow(u, v));
    }

    private boolean reaches(int u, int v) {
        return REACHED[web][16 * u + v];
    }

    private boolean together(int p, int q) {
        return reaches(p, q) && reaches(q, p);
    }

    private int members(int p) {
        int members = 0;
        for (int q = 0; q < 16; q++) {
            members += together(p, q) ? 1 : 0;
        }
        return members;
    }

    /** The arrows that lead from the group named g to another one named h. */
    private int arrowsBetween(int g, int h) {
        int between = 0;
        for (int arrow = 0; arrow < 12; arrow++) {
            if (has(arrow) && g != h && names[tail(arrow)] == g && names[head(arrow)] == h) {
                between |= 1 << arrow;
            }
        }
        return between;
    }

    private List<Integer> order() {
        List<Integer> order = new ArrayList<>();
        for (int next = leastFree(order); next < 16; next = leastFree(order)) {
            order.add(next);
        }
        return order;
    }

    private int leastFree(List<Integer> order) {
        int name = 0;
        while (name < 16 && (names[name] != name || order.contains(name) || !allBeforeAreIn(order, name))) {
            name++;
        }
        return name;
    }

    private boolean allBeforeAreIn(List<Integer> order, int name) {
        for (int g = 0; g < 16; g++) {
            if (arrowsBetween(g, name) != 0 && !order.contains(g)) {
                return false;
            }
        }
        return true;
    }

    private int mostGroups() {
        int most = 0;
        for (List<Row> rows : ROWS) {
            for (Row row : rows) {
                if (row.isWay(web)) {
                    most = Math.max(most, (int) row.places().stream().map(p -> names[p]).distinct().count());
                }
            }
        }
        return most;
    }

    private int arrowsThatMatter() {
        int matter = 0;
        for (int arrow = 0; arrow < 12; arrow++) {
            matter += has(arrow) && someIsNotAnyMore(web & ~(1 << arrow)) ? 1 : 0;
        }
        return matter;
    }

    private boolean someIsNotAnyMore(int without) {
        for (int pair = 0; pair < 256; pair++) {
            if (REACHED[web][pair] && !REACHED[without][pair]) {
                return true;
            }
        }
        return false;
    }

    private List<Integer> firstWay(int u, int v) {
        List<Integer> first = List.of();
        for (Row row : ROWS.get(16 * u + v)) {
            if (row.isWay(web) && (first.isEmpty() || comesBefore(row.places(), first))) {
                first = row.places();
            }
        }
        return first;
    }

    private static boolean comesBefore(List<Integer> one, List<Integer> other) {
        if (one.size() != other.size()) {
            return one.size() < other.size();
        }
        int i = 0;
        while (i + 1 < one.size() && one.get(i).equals(other.get(i))) {
            i++;
        }
        return one.get(i) < other.get(i);
    }

    private boolean dependent(int r, int v, int d) {
        return reaches(r, v) && ROWS.get(16 * r + v).stream()
                .allMatch(row -> !row.isWay(web) || row.places().contains(d));
    }

    private int gate(int r, int v) {
        for (int d : FOUR) {
            if (d != v && dependent(r, v, d) && dependentOnAllOthers(r, v, d)) {
                return d;
            }
        }
        return -1;
    }

    private boolean dependentOnAllOthers(int r, int v, int d) {
        for (int e : FOUR) {
            if (e != v && e != d && dependent(r, v, e) && !dependent(r, d, e)) {
                return false;
            }
        }
        return true;
    }

    private int gated(int r, int d) {
        int gated = 0;
        for (int v : FOUR) {
            gated += dependent(r, v, d) ? 1 : 0;
        }
        return gated;
    }

    private int placesThatPart(int u, int v) {
        int least = 16;
        for (int set = 0; set < 16; set++) {
            if ((set >> at(u) & 1) == 0 && (set >> at(v) & 1) == 0 && allWaysPass(u, v, set)) {
                least = Math.min(least, Integer.bitCount(set));
            }
        }
        return least;
    }

    private boolean allWaysPass(int u, int v, int set) {
        return ROWS.get(16 * u + v).stream().allMatch(row -> !row.isWay(web)
                || row.places().stream().anyMatch(p -> (set >> at(p) & 1) == 1));
    }

    /** Tries every set of the web's arrows. */
    private int arrowsThatPart(int u, int v) {
        int least = 16;
        for (int set = web; set >= 0; set--) {
            if ((set & ~web) == 0 && !REACHED[web & ~set][16 * u + v]) {
                least = Math.min(least, Integer.bitCount(set));
            }
        }
        return least;
    }

    private static int at(int place) {
        int at = 0;
        while (FOUR[at] != place) {
            at++;
        }
        return at;
    }

    private static int arrow(int u, int v) {
        return 3 * at(u) + at(v) - (at(v) > at(u) ? 1 : 0);
    }

    private static int tail(int arrow) {
        return FOUR[arrow / 3];
    }

    private static int head(int arrow) {
        return FOUR[arrow % 3 + (arrow % 3 >= arrow / 3 ? 1 : 0)];
    }

    /** At 16 u + v the rows from u to v. */
    private static List<List<Row>> rows() {
        List<List<Row>> rows = new ArrayList<>();
        for (int pair = 0; pair < 256; pair++) {
            rows.add(new ArrayList<>());
        }
        for (int u = 0; u < 16; u++) {
            rows.get(17 * u).add(new Row(List.of(u), 0));
        }
        for (int u : FOUR) {
            addLonger(rows, new Row(List.of(u), 0));
        }
        return rows;
    }

    private static void addLonger(List<List<Row>> rows, Row row) {
        for (int next : FOUR) {
            if (!row.places().contains(next)) {
                List<Integer> places = new ArrayList<>(row.places());
                places.add(next);
                Row longer = new Row(places, row.arrows() | 1 << arrow(row.places().get(row.length()), next));
                rows.get(16 * places.get(0) + next).add(longer);
                addLonger(rows, longer);
            }
        }
    }
}
