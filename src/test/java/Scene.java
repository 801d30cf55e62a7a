import java.util.ArrayList;
import java.util.List;
import java.util.function.Consumer;
import java.util.function.Function;

/** A web that edges are asked of, and its portrait: all that an object with it answers. */
final class Scene {
    /** Calls with two places; a run asks for all pairs, and with the arrows stays below 512 calls. */
    interface PairCall {
        Object on(ArcAtlas x, int u, int v);
    }

    static final Scene EMPTY = new Scene("no arrows");
    static final Scene ONE = new Scene("one arrow", 0, 15);
    static final Scene RING = new Scene("a ring of all places", Checks.ring(16));
    static final Scene PARTED = new Scene("groups of 3, 2 and 1, ways that part, a place alone",
            3, 1, 1, 2, 2, 3, 2, 5, 2, 6, 5, 8, 6, 8, 8, 15, 15, 8, 0, 4, 4, 9, 0, 9, 9, 14, 12, 11);
    static final Scene BEFORE_FULL = new Scene("79 arrows", Checks.firstArrows(79));
    static final Scene FULL = new Scene("80 arrows", Checks.firstArrows(80));
    static final Scene FULL_ROUND = new Scene("80 arrows, one group", fiveStepsRound());
    static final Scene FULL_ROW = new Scene("80 arrows, all groups alone", upwards());

    static final List<Scene> ALL =
            List.of(EMPTY, ONE, RING, PARTED, BEFORE_FULL, FULL, FULL_ROUND, FULL_ROW);

    private static final List<List<Function<ArcAtlas, Object>>> RUNS = runs();

    private final String name;
    private final int[] ends;
    private List<String> portrait;

    Scene(String name, int... ends) {
        this.name = name;
        this.ends = ends;
    }

    String name() {
        return name;
    }

    List<int[]> arrows() {
        List<int[]> arrows = new ArrayList<>();
        for (int i = 0; i + 1 < ends.length; i += 2) {
            arrows.add(new int[] {ends[i], ends[i + 1]});
        }
        return arrows;
    }

    ArcAtlas atlas() {
        return Checks.atlas(ends);
    }

    List<String> portrait() {
        if (portrait == null) {
            portrait = portraitBehind(x -> { });
        }
        return portrait;
    }

    /** What an object answers that has been asked some things, then the call, and then all. */
    List<String> portraitBehind(Consumer<ArcAtlas> call) {
        List<String> answers = new ArrayList<>();
        for (List<Function<ArcAtlas, Object>> run : RUNS) {
            ArcAtlas x = atlas();
            askSome(x);
            call.accept(x);
            for (Function<ArcAtlas, Object> question : run) {
                answers.add(answer(question, x));
            }
        }
        return answers;
    }

    // What an object may keep of its answers must not be spoilt by a refused call either.
    private static void askSome(ArcAtlas x) {
        x.group(15);
        x.way(15, 15, 0);
        x.gate(0, 0);
        x.places(0, 14);
        x.arrows(0, 15);
        x.figure(3);
    }

    private static String answer(Function<ArcAtlas, Object> question, ArcAtlas x) {
        try {
            return String.valueOf(question.apply(x));
        } catch (RuntimeException e) {
            return "throws." + e.getClass().getSimpleName();
        }
    }

    private static List<List<Function<ArcAtlas, Object>>> runs() {
        List<List<Function<ArcAtlas, Object>>> runs = new ArrayList<>();
        runs.add(ofOneNumber());
        runs.add(ofPairs((x, u, v) -> told("reaches", u, v, x.reaches(u, v))));
        runs.add(ofPairs((x, u, v) -> told("distance", u, v, x.distance(u, v))));
        runs.add(ofPairs((x, u, v) -> told("way, place 0,", u, v, x.way(u, v, 0))));
        runs.add(ofPairs((x, u, v) -> told("way, place 1,", u, v, x.way(u, v, 1))));
        runs.add(ofPairs((x, u, v) -> told("way, place 2,", u, v, x.way(u, v, 2))));
        runs.add(ofPairs((x, u, v) -> told("way, place 3,", u, v, x.way(u, v, 3))));
        runs.add(ofPairs((x, u, v) -> told("gate", u, v, x.gate(u, v))));
        runs.add(ofPairs((x, u, v) -> told("gated", u, v, x.gated(u, v))));
        runs.add(ofPairs((x, u, v) -> told("places", u, v, x.places(u, v))));
        runs.add(ofPairs((x, u, v) -> told("arrows", u, v, x.arrows(u, v))));
        runs.add(ofPairs((x, u, v) -> told("add", u, v, x.add(u, v))));
        runs.add(ofPairs((x, u, v) -> told("remove", u, v, x.remove(u, v))));
        runs.add(List.of(x -> "clear " + x.clear(), x -> "clear again " + x.clear()));
        return runs;
    }

    private static List<Function<ArcAtlas, Object>> ofOneNumber() {
        List<Function<ArcAtlas, Object>> run = new ArrayList<>();
        for (int n = -1; n <= 16; n++) {
            int k = n;
            run.add(x -> "group " + k + ": " + x.group(k));
            run.add(x -> "members " + k + ": " + x.members(k));
            run.add(x -> "rank " + k + ": " + x.rank(k));
            run.add(x -> "ranked " + k + ": " + x.ranked(k));
            run.add(x -> "figure " + k + ": " + x.figure(k));
        }
        return run;
    }

    private static List<Function<ArcAtlas, Object>> ofPairs(PairCall call) {
        List<Function<ArcAtlas, Object>> run = new ArrayList<>();
        for (int n = 0; n < 256; n++) {
            int u = n / 16;
            int v = n % 16;
            run.add(x -> call.on(x, u, v));
        }
        return run;
    }

    private static String told(String call, int u, int v, Object answer) {
        return call + " " + u + " " + v + ": " + answer;
    }

    /** From each place to the next five, round and round. */
    private static int[] fiveStepsRound() {
        int[] ends = new int[160];
        for (int n = 0; n < 80; n++) {
            ends[2 * n] = n / 5;
            ends[2 * n + 1] = (n / 5 + n % 5 + 1) % 16;
        }
        return ends;
    }

    /** From each place to the next six greater ones, as far as there are any, and five of seven steps. */
    private static int[] upwards() {
        int[] ends = new int[160];
        int made = 0;
        for (int steps = 1; steps <= 7; steps++) {
            for (int u = 0; u + steps < 16 && made < 80; u++) {
                ends[2 * made] = u;
                ends[2 * made + 1] = u + steps;
                made++;
            }
        }
        return ends;
    }
}
