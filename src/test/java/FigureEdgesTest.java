/** The edges that promise 16 names: each figure without any arrow and with 80, and no figure. */
public final class FigureEdgesTest {
    private static final Checks CHECKS = new Checks("edges of promise 16");

    public static void main(String[] args) {
        CHECKS.sentence("k = 0: how many arrows there are", () -> figure(0, 0, 1, 80, 80, 80));
        CHECKS.sentence("k = 1: how many groups", () -> figure(1, 16, 16, 11, 1, 16));
        CHECKS.sentence("k = 2: one of which leads to the other", () -> figure(2, 0, 1, 10, 0, 80));
        CHECKS.sentence("k = 3: the first one reaches the second one only so", () -> figure(3, 0, 1, 10, 0, 15));
        CHECKS.sentence("k = 4: the greatest number of groups on a way", () -> figure(4, 1, 2, 2, 1, 16));
        CHECKS.sentence("k = 5: without each of which alone some place is not any more",
                () -> figure(5, 0, 1, 0, 0, 15));
        CHECKS.sentence("k = 2, 3: pairs of groups, not arrows", FigureEdgesTest::manyArrowsOnePair);
        CHECKS.sentence("k = 3: without all arrows between just these two groups", FigureEdgesTest::justTheseTwo);
        CHECKS.sentence("k = 5: each alone", FigureEdgesTest::eachAlone);
        CHECKS.sentence("k = 5: reached by another one", FigureEdgesTest::missedByOnePlaceOnly);
        CHECKS.sentence("Illegal argument: k is none of these, below 0", FigureEdgesTest::tooSmall);
        CHECKS.sentence("Illegal argument: k is none of these, too large", FigureEdgesTest::tooLarge);
        CHECKS.finish();
    }

    private static void figure(int k, int none, int one, int full, int round, int row) {
        check(k, Scene.EMPTY, none);
        check(k, Scene.ONE, one);
        check(k, Scene.FULL, full);
        check(k, Scene.FULL_ROUND, round);
        check(k, Scene.FULL_ROW, row);
        ArcAtlas x = Scene.FULL_ROW.atlas();
        x.clear();
        CHECKS.due("figure(" + k + ") behind clear", x.figure(k), none);
        x.add(0, 15);
        CHECKS.due("figure(" + k + ") with one arrow put then", x.figure(k), one);
        x.remove(0, 15);
        CHECKS.due("figure(" + k + ") with that taken", x.figure(k), none);
    }

    private static void check(int k, Scene scene, int due) {
        CHECKS.due("figure(" + k + ") (" + scene.name() + ")", scene.atlas().figure(k), due);
    }

    private static void manyArrowsOnePair() {
        // Four arrows between {0, 1} and {2, 3}, all one way.
        ArcAtlas x = Checks.atlas(0, 1, 1, 0, 2, 3, 3, 2, 0, 2, 0, 3, 1, 2, 1, 3);
        CHECKS.due("figure(2) of two groups", x.figure(2), 1);
        CHECKS.due("figure(3) of two groups", x.figure(3), 1);
        CHECKS.due("figure(5) of two groups", x.figure(5), 4);
    }

    private static void justTheseTwo() {
        // {0, 1} leads to 2 over two arrows, and by 3 too: without both arrows it still reaches 2.
        ArcAtlas x = Checks.atlas(0, 1, 1, 0, 0, 2, 1, 2, 1, 3, 3, 2);
        CHECKS.due("figure(2)", x.figure(2), 3);
        CHECKS.due("figure(3)", x.figure(3), 2);
        x.remove(3, 2);
        CHECKS.due("figure(2) without the way by 3", x.figure(2), 2);
        CHECKS.due("figure(3) without the way by 3", x.figure(3), 2);
        // The other way goes by the first and by the last place there is.
        CHECKS.due("figure(3), another way by 0", Checks.atlas(1, 2, 2, 0, 0, 3, 1, 3).figure(3), 3);
        CHECKS.due("figure(3), another way by 15", Checks.atlas(1, 2, 2, 15, 15, 3, 1, 3).figure(3), 3);
    }

    private static void eachAlone() {
        // By 1 and by 2 from 0 to 3: no arrow alone parts 0 from 3, but each parts two of the places.
        ArcAtlas x = Checks.atlas(0, 1, 1, 3, 0, 2, 2, 3);
        CHECKS.due("figure(5) of two ways", x.figure(5), 4);
        // An arrow and a longer way: the arrow may go alone, one of the others not.
        ArcAtlas y = Checks.atlas(0, 1, 1, 2, 0, 2);
        CHECKS.due("figure(5) of an arrow and a longer way", y.figure(5), 2);
        ArcAtlas ring = Scene.RING.atlas();
        CHECKS.due("figure(5) of the ring", ring.figure(5), 16);
        ring.add(0, 2);
        CHECKS.due("figure(5) of the ring with a shorter way", ring.figure(5), 16);
        CHECKS.due("figure(0) behind it, nothing is taken by asking", ring.figure(0), 17);
    }

    private static void missedByOnePlaceOnly() {
        // Without the arrow from 0 to 2 it is 0 alone that does not reach 2 any more; 1 still does.
        CHECKS.due("figure(5), two arrows to one place", Checks.atlas(0, 2, 1, 2).figure(5), 2);
    }

    private static void tooSmall() {
        for (Scene scene : Scene.ALL) {
            CHECKS.refused("figure(-1)", IllegalArgumentException.class, scene, x -> x.figure(-1));
            CHECKS.refused("figure(least)", IllegalArgumentException.class, scene,
                    x -> x.figure(Integer.MIN_VALUE));
        }
    }

    private static void tooLarge() {
        for (Scene scene : Scene.ALL) {
            CHECKS.refused("figure(6)", IllegalArgumentException.class, scene, x -> x.figure(6));
            CHECKS.refused("figure(16)", IllegalArgumentException.class, scene, x -> x.figure(16));
            CHECKS.refused("figure(most)", IllegalArgumentException.class, scene,
                    x -> x.figure(Integer.MAX_VALUE));
        }
    }
}
