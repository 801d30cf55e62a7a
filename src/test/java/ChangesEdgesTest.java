/** The edges that promises 1 to 4 name: a new object, add, remove, clear. */
public final class ChangesEdgesTest {
    private static final Checks CHECKS = new Checks("edges of promises 1 to 4");

    public static void main(String[] args) {
        CHECKS.sentence("1: No arrows", ChangesEdgesTest::noArrows);
        CHECKS.sentence("1: each place is a group alone", ChangesEdgesTest::eachPlaceAlone);
        CHECKS.sentence("2: Puts an arrow from u to v: true", ChangesEdgesTest::everyArrowCanBePut);
        CHECKS.sentence("2: false when there is one", ChangesEdgesTest::thereIsOne);
        CHECKS.sentence("2: Illegal argument: also when u is v", ChangesEdgesTest::fromAPlaceToItself);
        CHECKS.sentence("2: illegal state: there are 80", ChangesEdgesTest::thereAreEighty);
        CHECKS.sentence("2: illegal state: there is none, and there are 80", ChangesEdgesTest::thereIsOneOfEighty);
        CHECKS.sentence("2: 80 at once, not in all", ChangesEdgesTest::eightyAtOnce);
        CHECKS.sentence("3: Takes the arrow away: true", ChangesEdgesTest::everyArrowCanBeTaken);
        CHECKS.sentence("3: false when there is none", ChangesEdgesTest::thereIsNone);
        CHECKS.sentence("3: false also when u is v", ChangesEdgesTest::noneToItself);
        CHECKS.sentence("4: Takes all arrows away", ChangesEdgesTest::allAreTaken);
        CHECKS.sentence("4: how many there were", ChangesEdgesTest::howManyThereWere);
        CHECKS.finish();
    }

    private static void noArrows() {
        ArcAtlas x = new ArcAtlas();
        for (int n = 0; n < 256; n++) {
            CHECKS.due("remove, pair " + n + " of a new object", x.remove(n / 16, n % 16), false);
        }
        CHECKS.due("figure(0) of a new object", x.figure(0), 0);
        CHECKS.due("clear of a new object", x.clear(), 0);
        ArcAtlas y = new ArcAtlas();
        for (int n = 0; n < 256; n++) {
            CHECKS.due("reaches, pair " + n + " of a new object", y.reaches(n / 16, n % 16), n / 16 == n % 16);
        }
    }

    private static void eachPlaceAlone() {
        ArcAtlas x = new ArcAtlas();
        for (int p = 0; p < 16; p++) {
            CHECKS.due("group(" + p + ") of a new object", x.group(p), p);
            CHECKS.due("members(" + p + ") of a new object", x.members(p), 1);
            CHECKS.due("rank(" + p + ") of a new object", x.rank(p), p);
            CHECKS.due("ranked(" + p + ") of a new object", x.ranked(p), p);
        }
        CHECKS.due("figure(1) of a new object", x.figure(1), 16);
    }

    private static void everyArrowCanBePut() {
        ArcAtlas x = new ArcAtlas();
        for (int n = 0; n < 256; n++) {
            int u = n / 16;
            int v = n % 16;
            if (u == v) {
                x.clear();
            } else {
                CHECKS.due("add(" + u + ", " + v + ")", x.add(u, v), true);
                CHECKS.due("distance(" + u + ", " + v + ") behind it", x.distance(u, v), 1);
            }
        }
    }

    private static void thereIsOne() {
        for (Scene scene : Scene.ALL) {
            ArcAtlas x = scene.atlas();
            for (int[] arrow : scene.arrows()) {
                CHECKS.due("add of one that is there (" + scene.name() + ")", x.add(arrow[0], arrow[1]), false);
            }
            CHECKS.due("clear behind it (" + scene.name() + ")", x.clear(), scene.arrows().size());
            CHECKS.same("what is answered behind it (" + scene.name() + ")",
                    scene.portraitBehind(y -> addAll(y, scene)), scene.portrait());
        }
    }

    private static void addAll(ArcAtlas y, Scene scene) {
        for (int[] arrow : scene.arrows()) {
            y.add(arrow[0], arrow[1]);
        }
    }

    private static void fromAPlaceToItself() {
        for (Scene scene : Scene.ALL) {
            CHECKS.refused("add(0, 0)", IllegalArgumentException.class, scene, x -> x.add(0, 0));
            CHECKS.refused("add(7, 7)", IllegalArgumentException.class, scene, x -> x.add(7, 7));
            CHECKS.refused("add(15, 15)", IllegalArgumentException.class, scene, x -> x.add(15, 15));
        }
    }

    private static void thereAreEighty() {
        ArcAtlas x = Scene.BEFORE_FULL.atlas();
        CHECKS.due("add(5, 4), the 80th", x.add(5, 4), true);
        CHECKS.due("figure(0) with it", x.figure(0), 80);
        CHECKS.refused("add(5, 6), the 81st", IllegalStateException.class, Scene.FULL, y -> y.add(5, 6));
        CHECKS.refused("add(15, 0), the 81st", IllegalStateException.class, Scene.FULL, y -> y.add(15, 0));
        CHECKS.refused("add(0, 15), the 81st", IllegalStateException.class, Scene.FULL_ROUND, y -> y.add(0, 15));
        CHECKS.refused("add(15, 14), the 81st", IllegalStateException.class, Scene.FULL_ROW, y -> y.add(15, 14));
    }

    private static void thereIsOneOfEighty() {
        CHECKS.due("add(5, 4), one of 80", Scene.FULL.atlas().add(5, 4), false);
        CHECKS.due("add(15, 0), one of 80", Scene.FULL_ROUND.atlas().add(15, 0), false);
        CHECKS.due("add(14, 15), one of 80", Scene.FULL_ROW.atlas().add(14, 15), false);
    }

    private static void eightyAtOnce() {
        ArcAtlas x = Scene.FULL.atlas();
        x.add(5, 4);
        x.remove(15, 0);
        CHECKS.refused("add behind one that put and one that took nothing", IllegalStateException.class,
                () -> x.add(15, 0));
        CHECKS.due("remove(0, 1) of 80", x.remove(0, 1), true);
        CHECKS.due("add(15, 0), there are 79", x.add(15, 0), true);
        CHECKS.refused("add(0, 1), there are 80 again", IllegalStateException.class, () -> x.add(0, 1));
        CHECKS.due("clear of 80", x.clear(), 80);
        CHECKS.due("add(0, 1) behind clear", x.add(0, 1), true);
        ArcAtlas y = new ArcAtlas();
        for (int n = 0; n < 100; n++) {
            CHECKS.due("add, time " + n, y.add(3, 2), true);
            CHECKS.due("remove, time " + n, y.remove(3, 2), true);
        }
    }

    private static void everyArrowCanBeTaken() {
        ArcAtlas x = Scene.FULL.atlas();
        int left = 80;
        for (int n = 0; left > 0; n++) {
            int u = n / 16;
            int v = n % 16;
            if (u != v) {
                CHECKS.due("remove(" + u + ", " + v + ") of " + left, x.remove(u, v), true);
                left--;
                CHECKS.due("figure(0) behind it", x.figure(0), left);
            }
        }
        CHECKS.same("what is answered when the last one is taken", Scene.EMPTY.portraitBehind(y -> putAndTake(y)),
                Scene.EMPTY.portrait());
    }

    private static void putAndTake(ArcAtlas y) {
        y.add(0, 15);
        y.add(15, 0);
        y.remove(0, 15);
        y.remove(15, 0);
    }

    private static void thereIsNone() {
        ArcAtlas x = Scene.ONE.atlas();
        CHECKS.due("remove(15, 0), only the arrow back is there", x.remove(15, 0), false);
        CHECKS.due("remove(0, 14)", x.remove(0, 14), false);
        CHECKS.due("remove(1, 15)", x.remove(1, 15), false);
        CHECKS.due("remove(0, 15)", x.remove(0, 15), true);
        CHECKS.due("remove(0, 15), taken before", x.remove(0, 15), false);
        for (Scene scene : Scene.ALL) {
            CHECKS.due("remove(15, 7) (" + scene.name() + ")", scene.atlas().remove(15, 7), false);
            CHECKS.same("what is answered behind it (" + scene.name() + ")",
                    scene.portraitBehind(y -> y.remove(15, 7)), scene.portrait());
        }
    }

    private static void noneToItself() {
        for (Scene scene : Scene.ALL) {
            for (int p = 0; p < 16; p++) {
                CHECKS.due("remove(p, p), p = " + p + " (" + scene.name() + ")", scene.atlas().remove(p, p), false);
            }
            CHECKS.same("what is answered behind it (" + scene.name() + ")",
                    scene.portraitBehind(y -> y.remove(15, 15)), scene.portrait());
        }
    }

    private static void allAreTaken() {
        for (Scene scene : Scene.ALL) {
            CHECKS.same("what is answered behind clear (" + scene.name() + ")",
                    scene.portraitBehind(y -> y.clear()), Scene.EMPTY.portrait());
        }
    }

    private static void howManyThereWere() {
        CHECKS.due("clear of none", Scene.EMPTY.atlas().clear(), 0);
        CHECKS.due("clear of one", Scene.ONE.atlas().clear(), 1);
        CHECKS.due("clear of 79", Scene.BEFORE_FULL.atlas().clear(), 79);
        CHECKS.due("clear of 80", Scene.FULL.atlas().clear(), 80);
        ArcAtlas x = Checks.atlas(0, 1, 0, 1, 2, 3, 4, 5);
        x.remove(2, 3);
        x.remove(2, 3);
        CHECKS.due("clear, one put twice and one taken twice", x.clear(), 2);
        CHECKS.due("clear again", x.clear(), 0);
        x.add(0, 1);
        CHECKS.due("clear behind one more", x.clear(), 1);
    }
}
