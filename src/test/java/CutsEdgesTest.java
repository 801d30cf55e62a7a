/** The edges that promises 14 and 15 name: places, arrows. */
public final class CutsEdgesTest {
    private static final Checks CHECKS = new Checks("edges of promises 14 and 15");

    public static void main(String[] args) {
        CHECKS.sentence("14: The least number of places, neither u nor v", CutsEdgesTest::otherPlaces);
        CHECKS.sentence("14: places; 15: arrows", CutsEdgesTest::onePlaceTwoArrows);
        CHECKS.sentence("14: the most that there can be", CutsEdgesTest::allOtherPlaces);
        CHECKS.sentence("14: 0 when it does not at all", CutsEdgesTest::noPlaceIsNeeded);
        CHECKS.sentence("14: -1 when u is v", CutsEdgesTest::noPlacesPartOne);
        CHECKS.sentence("14: -1 when an arrow leads from u to v", CutsEdgesTest::noPlacesPartNeighbours);
        CHECKS.sentence("15: The least number of arrows", CutsEdgesTest::anArrowAlone);
        CHECKS.sentence("15: the most that there can be", CutsEdgesTest::allArrows);
        CHECKS.sentence("15: 0 when it does not at all", CutsEdgesTest::noArrowIsNeeded);
        CHECKS.sentence("15: -1 when u is v", CutsEdgesTest::noArrowsPartOne);
        CHECKS.sentence("14 and 15: illegal argument comes before -1", CutsEdgesTest::noPlaceTwice);
        CHECKS.finish();
    }

    private static void otherPlaces() {
        // Without 0 or without 15 there is no way either, but these are not among the places to take.
        ArcAtlas x = Checks.atlas(0, 1, 0, 2, 1, 15, 2, 15);
        CHECKS.due("places(0, 15) by 1 and by 2", x.places(0, 15), 2);
        x.remove(2, 15);
        CHECKS.due("places(0, 15) by 1", x.places(0, 15), 1);
        CHECKS.due("places(1, 0) round the ring", Scene.RING.atlas().places(1, 0), 1);
        CHECKS.due("places(0, 6), 80 arrows round", Scene.FULL_ROUND.atlas().places(0, 6), 5);
        CHECKS.due("places(0, 15), 80 arrows in a row", Scene.FULL_ROW.atlas().places(0, 15), 6);
    }

    private static void onePlaceTwoArrows() {
        // All ways pass 7, but no arrow is on all of them.
        ArcAtlas x = Checks.atlas(0, 1, 0, 2, 1, 7, 2, 7, 7, 3, 7, 4, 3, 15, 4, 15);
        CHECKS.due("places(0, 15) by 7", x.places(0, 15), 1);
        CHECKS.due("arrows(0, 15) by 7", x.arrows(0, 15), 2);
    }

    private static void allOtherPlaces() {
        ArcAtlas x = byAllOthers();
        CHECKS.due("places(0, 15) by each other place", x.places(0, 15), 14);
        x.remove(7, 15);
        CHECKS.due("places(0, 15) by each but 7", x.places(0, 15), 13);
    }

    private static ArcAtlas byAllOthers() {
        ArcAtlas x = new ArcAtlas();
        for (int p = 1; p < 15; p++) {
            x.add(0, p);
            x.add(p, 15);
        }
        return x;
    }

    private static void noPlaceIsNeeded() {
        CHECKS.due("places(0, 15) without arrows", Scene.EMPTY.atlas().places(0, 15), 0);
        CHECKS.due("places(15, 0), an arrow back only", Scene.ONE.atlas().places(15, 0), 0);
        CHECKS.due("places(6, 5)", Scene.PARTED.atlas().places(6, 5), 0);
        CHECKS.due("places(15, 0), 80 arrows", Scene.FULL.atlas().places(15, 0), 0);
        CHECKS.due("places(15, 0), 80 arrows in a row", Scene.FULL_ROW.atlas().places(15, 0), 0);
    }

    private static void noPlacesPartOne() {
        for (Scene scene : Scene.ALL) {
            ArcAtlas x = scene.atlas();
            for (int p = 0; p < 16; p++) {
                CHECKS.due("places(p, p), p = " + p + " (" + scene.name() + ")", x.places(p, p), -1);
            }
        }
    }

    private static void noPlacesPartNeighbours() {
        for (Scene scene : Scene.ALL) {
            ArcAtlas x = scene.atlas();
            for (int[] a : scene.arrows()) {
                CHECKS.due("places(" + a[0] + ", " + a[1] + ") (" + scene.name() + ")", x.places(a[0], a[1]), -1);
            }
        }
        ArcAtlas x = Checks.atlas(0, 1, 1, 15, 0, 15);
        CHECKS.due("places(0, 15), an arrow and a longer way", x.places(0, 15), -1);
        CHECKS.due("places(15, 0), an arrow back only", x.places(15, 0), 0);
        x.remove(0, 15);
        CHECKS.due("places(0, 15) without the arrow", x.places(0, 15), 1);
    }

    private static void anArrowAlone() {
        CHECKS.due("arrows(0, 15), one arrow", Scene.ONE.atlas().arrows(0, 15), 1);
        CHECKS.due("arrows(1, 0) round the ring", Scene.RING.atlas().arrows(1, 0), 1);
        ArcAtlas x = Checks.atlas(0, 1, 1, 15, 0, 15);
        CHECKS.due("arrows(0, 15), an arrow and a longer way", x.arrows(0, 15), 2);
        x.remove(0, 15);
        CHECKS.due("arrows(0, 15), the longer way", x.arrows(0, 15), 1);
        CHECKS.due("arrows(0, 8), 80 arrows round", Scene.FULL_ROUND.atlas().arrows(0, 8), 5);
        CHECKS.due("arrows(0, 15), 80 arrows in a row", Scene.FULL_ROW.atlas().arrows(0, 15), 6);
        CHECKS.due("arrows(5, 15), 80 arrows", Scene.FULL.atlas().arrows(5, 15), 5);
    }

    private static void allArrows() {
        ArcAtlas x = byAllOthers();
        CHECKS.due("arrows(0, 15) by each other place", x.arrows(0, 15), 14);
        x.add(0, 15);
        CHECKS.due("arrows(0, 15) straight too", x.arrows(0, 15), 15);
    }

    private static void noArrowIsNeeded() {
        CHECKS.due("arrows(0, 15) without arrows", Scene.EMPTY.atlas().arrows(0, 15), 0);
        CHECKS.due("arrows(15, 0), an arrow back only", Scene.ONE.atlas().arrows(15, 0), 0);
        CHECKS.due("arrows(6, 5)", Scene.PARTED.atlas().arrows(6, 5), 0);
        CHECKS.due("arrows(15, 0), 80 arrows", Scene.FULL.atlas().arrows(15, 0), 0);
        CHECKS.due("arrows(15, 0), 80 arrows in a row", Scene.FULL_ROW.atlas().arrows(15, 0), 0);
    }

    private static void noArrowsPartOne() {
        for (Scene scene : Scene.ALL) {
            ArcAtlas x = scene.atlas();
            for (int p = 0; p < 16; p++) {
                CHECKS.due("arrows(p, p), p = " + p + " (" + scene.name() + ")", x.arrows(p, p), -1);
            }
        }
    }

    private static void noPlaceTwice() {
        for (int p : new int[] {-1, 16}) {
            CHECKS.refused("places(p, p), p = " + p, IllegalArgumentException.class, Scene.RING, x -> x.places(p, p));
            CHECKS.refused("arrows(p, p), p = " + p, IllegalArgumentException.class, Scene.RING, x -> x.arrows(p, p));
        }
    }
}
