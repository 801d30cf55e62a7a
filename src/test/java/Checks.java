import java.util.List;
import java.util.function.Consumer;

/** Counts and prints the answers of one test that are not due. */
final class Checks {
    private final String promise;
    private String sentence = "";
    private int asked = 0;
    private int wrong = 0;

    Checks(String promise) {
        this.promise = promise;
    }

    /** Runs the test of one sentence of the document; a test that asks nothing is wrong too. */
    void sentence(String words, Runnable test) {
        int before = asked;
        sentence = ", '" + words + "'";
        try {
            test.run();
        } catch (RuntimeException e) {
            due("a call that is not refused", "throws " + e, "an answer");
        }
        due("is asked for", asked > before, true);
        sentence = "";
    }

    void due(String call, Object got, Object want) {
        asked++;
        if (!want.equals(got)) {
            wrong++;
            System.out.println(promise + sentence + ": " + call + " answered " + got + ", due is " + want);
        }
    }

    void refused(String call, Class<? extends RuntimeException> want, Runnable asking) {
        due(call, outcome(asking), want.getSimpleName());
    }

    /** Also holds all answers behind the refused call against those without it. */
    void refused(String call, Class<? extends RuntimeException> want, Scene scene, Consumer<ArcAtlas> asking) {
        String told = call + " (" + scene.name() + ")";
        refused(told, want, () -> asking.accept(scene.atlas()));
        same("what is answered behind " + told, scene.portraitBehind(x -> outcome(() -> asking.accept(x))),
                scene.portrait());
    }

    /** Holds two portraits against each other and tells the first answer that differs. */
    void same(String portrait, List<String> got, List<String> want) {
        int n = 0;
        while (n + 1 < want.size() && got.get(n).equals(want.get(n))) {
            n++;
        }
        due(portrait, got.get(n), want.get(n));
    }

    /** Prints what was counted, and ends the program with 1 if an answer was wrong. */
    void finish() {
        System.out.println(promise + ": " + asked + " answers, " + wrong + " wrong");
        if (wrong > 0 || asked == 0) {
            System.exit(1);
        }
    }

    static ArcAtlas atlas(int... ends) {
        ArcAtlas made = new ArcAtlas();
        for (int i = 0; i + 1 < ends.length; i += 2) {
            made.add(ends[i], ends[i + 1]);
        }
        return made;
    }

    /** The ends of the arrows of a ring through the places from 0 on, for atlas. */
    static int[] ring(int places) {
        int[] ends = new int[2 * places];
        for (int p = 0; p < places; p++) {
            ends[2 * p] = p;
            ends[2 * p + 1] = (p + 1) % places;
        }
        return ends;
    }

    /** The first arrows of the row 0 to 1, 0 to 2, .. 0 to 15, 1 to 0, 1 to 2, .., for atlas. */
    static int[] firstArrows(int count) {
        int[] ends = new int[2 * count];
        int made = 0;
        for (int u = 0; u < 16; u++) {
            for (int v = 0; v < 16; v++) {
                if (u != v && made < count) {
                    ends[2 * made] = u;
                    ends[2 * made + 1] = v;
                    made++;
                }
            }
        }
        return ends;
    }

    private static String outcome(Runnable asking) {
        try {
            asking.run();
            return "nothing thrown";
        } catch (RuntimeException e) {
            return e.getClass().getSimpleName();
        }
    }
}
