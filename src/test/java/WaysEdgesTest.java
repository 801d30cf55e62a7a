import java.util.NoSuchElementException;

/** The edges that promises 9 to 11 name: reaches, distance, way. */
public final class WaysEdgesTest {
    private static final Checks CHECKS = new Checks("edges of promises 9 to 11");

    public static void main(String[] args) {
        CHECKS.sentence("9: Whether u reaches v, u is v", WaysEdgesTest::reachesItself);
        CHECKS.sentence("9: Whether u reaches v, it does not", WaysEdgesTest::doesNotReach);
        CHECKS.sentence("10: The length of the shortest ways, u is v", WaysEdgesTest::noLength);
        CHECKS.sentence("10: The length of the shortest ways, the longest there is", WaysEdgesTest::mostLength);
        CHECKS.sentence("10: of the shortest ways, not of the first ones found", WaysEdgesTest::shortestLength);
        CHECKS.sentence("10: -1 when u does not reach v", WaysEdgesTest::noWayNoLength);
        CHECKS.sentence("11: Place i (from 0), of a way of one place", WaysEdgesTest::onePlace);
        CHECKS.sentence("11: Place i (from 0), of a way of all places", WaysEdgesTest::allPlaces);
        CHECKS.sentence("11: the lesser place where they part comes first", WaysEdgesTest::whereTheyPart);
        CHECKS.sentence("11: of the shortest ways", WaysEdgesTest::notByALongerWay);
        CHECKS.sentence("11: no such element: u does not reach v", WaysEdgesTest::noWay);
        CHECKS.sentence("11: index out of bounds: the way has no place i, below 0", WaysEdgesTest::beforeTheWay);
        CHECKS.sentence("11: index out of bounds: the way has no place i, too large", WaysEdgesTest::behindTheWay);
        CHECKS.sentence("11: Illegal argument; no such element; index out of bounds", WaysEdgesTest::inTheirOrder);
        CHECKS.finish();
    }

    private static void reachesItself() {
        for (Scene scene : Scene.ALL) {
            ArcAtlas x = scene.atlas();
            for (int p = 0; p < 16; p++) {
                CHECKS.due("reaches(p, p), p = " + p + " (" + scene.name() + ")", x.reaches(p, p), true);
            }
        }
    }

    private static void doesNotReach() {
        CHECKS.due("reaches(0, 15) without arrows", Scene.EMPTY.atlas().reaches(0, 15), false);
        CHECKS.due("reaches(15, 0), an arrow back only", Scene.ONE.atlas().reaches(15, 0), false);
        CHECKS.due("reaches(6, 5), ways from one place to both", Scene.PARTED.atlas().reaches(6, 5), false);
        CHECKS.due("reaches(6, 0), 80 arrows", Scene.FULL.atlas().reaches(6, 0), false);
        CHECKS.due("reaches(15, 14), 80 arrows", Scene.FULL_ROW.atlas().reaches(15, 14), false);
        ArcAtlas row = Scene.RING.atlas();
        row.remove(15, 0);
        CHECKS.due("reaches(0, 15) in a row", row.reaches(0, 15), true);
        CHECKS.due("reaches(15, 0) in a row", row.reaches(15, 0), false);
        row.remove(0, 1);
        CHECKS.due("reaches(0, 15), the first arrow gone", row.reaches(0, 15), false);
    }

    private static void noLength() {
        for (Scene scene : Scene.ALL) {
            ArcAtlas x = scene.atlas();
            for (int p = 0; p < 16; p++) {
                CHECKS.due("distance(p, p), p = " + p + " (" + scene.name() + ")", x.distance(p, p), 0);
            }
        }
        CHECKS.due("distance(0, 0), to and fro", Checks.atlas(0, 1, 1, 0).distance(0, 0), 0);
    }

    private static void mostLength() {
        ArcAtlas x = Scene.RING.atlas();
        for (int p = 0; p < 16; p++) {
            CHECKS.due("distance to the place before " + p, x.distance(p, (p + 15) % 16), 15);
            CHECKS.due("distance to the place behind " + p, x.distance(p, (p + 1) % 16), 1);
        }
    }

    private static void shortestLength() {
        ArcAtlas x = Checks.atlas(0, 1, 1, 2, 2, 3, 3, 4);
        CHECKS.due("distance(0, 4)", x.distance(0, 4), 4);
        x.add(0, 9);
        x.add(9, 4);
        CHECKS.due("distance(0, 4) by 9", x.distance(0, 4), 2);
        x.add(0, 4);
        CHECKS.due("distance(0, 4) over an arrow", x.distance(0, 4), 1);
        x.remove(0, 4);
        x.remove(9, 4);
        CHECKS.due("distance(0, 4) without both", x.distance(0, 4), 4);
    }

    private static void noWayNoLength() {
        CHECKS.due("distance(0, 15) without arrows", Scene.EMPTY.atlas().distance(0, 15), -1);
        CHECKS.due("distance(15, 0), an arrow back only", Scene.ONE.atlas().distance(15, 0), -1);
        CHECKS.due("distance(6, 5), ways from one place to both", Scene.PARTED.atlas().distance(6, 5), -1);
        CHECKS.due("distance(15, 0), 80 arrows", Scene.FULL.atlas().distance(15, 0), -1);
        CHECKS.due("distance(15, 0), 80 arrows in a row", Scene.FULL_ROW.atlas().distance(15, 0), -1);
    }

    private static void onePlace() {
        for (Scene scene : Scene.ALL) {
            ArcAtlas x = scene.atlas();
            for (int p = 0; p < 16; p++) {
                CHECKS.due("way(p, p, 0), p = " + p + " (" + scene.name() + ")", x.way(p, p, 0), p);
            }
        }
    }

    private static void allPlaces() {
        ArcAtlas x = Scene.RING.atlas();
        for (int i = 0; i < 16; i++) {
            CHECKS.due("way(0, 15, " + i + ")", x.way(0, 15, i), i);
            CHECKS.due("way(8, 7, " + i + ")", x.way(8, 7, i), (8 + i) % 16);
        }
    }

    private static void whereTheyPart() {
        // They part at once: the lesser second place comes first, whatever follows it.
        checkWay(Checks.atlas(0, 1, 1, 14, 14, 15, 0, 2, 2, 3, 3, 15), 0, 1, 14, 15);
        // They part late, at 7: by 8 or by 9.
        checkWay(Checks.atlas(5, 7, 7, 9, 9, 0, 7, 8, 8, 0), 5, 7, 8, 0);
        // They part, meet in 6 and part again: each time the lesser one.
        checkWay(Checks.atlas(15, 3, 15, 2, 3, 6, 2, 6, 6, 5, 6, 4, 5, 0, 4, 0), 15, 2, 6, 4, 0);
        // They part at once and never share a place again before the end, the places 0 and 15 among them.
        checkWay(Checks.atlas(7, 15, 15, 1, 1, 8, 7, 0, 0, 14, 14, 8), 7, 0, 14, 8);
    }

    private static void checkWay(ArcAtlas x, int... due) {
        int end = due[due.length - 1];
        for (int i = 0; i < due.length; i++) {
            CHECKS.due("way(" + due[0] + ", " + end + ", " + i + ")", x.way(due[0], end, i), due[i]);
        }
        CHECKS.due("distance(" + due[0] + ", " + end + ")", x.distance(due[0], end), due.length - 1);
    }

    private static void notByALongerWay() {
        // The lesser places 1 and 2 lead to the end too, but by one arrow more.
        checkWay(Checks.atlas(0, 1, 1, 2, 2, 9, 0, 8, 8, 9), 0, 8, 9);
        // The lesser place 1 leads nowhere.
        checkWay(Checks.atlas(0, 1, 0, 8, 8, 9), 0, 8, 9);
        // The lesser place leads back.
        checkWay(Checks.atlas(3, 1, 1, 3, 3, 8, 8, 9), 3, 8, 9);
    }

    private static void noWay() {
        CHECKS.refused("way(2, 3, 0)", NoSuchElementException.class, Scene.EMPTY, x -> x.way(2, 3, 0));
        CHECKS.refused("way(15, 0, 0)", NoSuchElementException.class, Scene.ONE, x -> x.way(15, 0, 0));
        CHECKS.refused("way(15, 0, 1)", NoSuchElementException.class, Scene.ONE, x -> x.way(15, 0, 1));
        CHECKS.refused("way(6, 5, 0)", NoSuchElementException.class, Scene.PARTED, x -> x.way(6, 5, 0));
        CHECKS.refused("way(15, 0, 0)", NoSuchElementException.class, Scene.FULL, x -> x.way(15, 0, 0));
        CHECKS.refused("way(15, 14, 0)", NoSuchElementException.class, Scene.FULL_ROW, x -> x.way(15, 14, 0));
    }

    private static void beforeTheWay() {
        for (Scene scene : Scene.ALL) {
            CHECKS.refused("way(4, 4, -1)", IndexOutOfBoundsException.class, scene, x -> x.way(4, 4, -1));
            CHECKS.refused("way(4, 4, least)", IndexOutOfBoundsException.class, scene,
                    x -> x.way(4, 4, Integer.MIN_VALUE));
        }
        CHECKS.refused("way(0, 15, -1)", IndexOutOfBoundsException.class, Scene.ONE, x -> x.way(0, 15, -1));
        CHECKS.refused("way(0, 15, -1)", IndexOutOfBoundsException.class, Scene.RING, x -> x.way(0, 15, -1));
    }

    private static void behindTheWay() {
        for (Scene scene : Scene.ALL) {
            CHECKS.refused("way(4, 4, 1)", IndexOutOfBoundsException.class, scene, x -> x.way(4, 4, 1));
            CHECKS.refused("way(4, 4, most)", IndexOutOfBoundsException.class, scene,
                    x -> x.way(4, 4, Integer.MAX_VALUE));
        }
        CHECKS.refused("way(0, 15, 2)", IndexOutOfBoundsException.class, Scene.ONE, x -> x.way(0, 15, 2));
        CHECKS.refused("way(0, 15, 16)", IndexOutOfBoundsException.class, Scene.RING, x -> x.way(0, 15, 16));
        CHECKS.refused("way(0, 14, 15)", IndexOutOfBoundsException.class, Scene.RING, x -> x.way(0, 14, 15));
    }

    private static void inTheirOrder() {
        for (int i : new int[] {-1, 0, 2, 16}) {
            CHECKS.refused("way(-1, 15, " + i + ")", IllegalArgumentException.class, Scene.ONE, x -> x.way(-1, 15, i));
            CHECKS.refused("way(16, 15, " + i + ")", IllegalArgumentException.class, Scene.ONE, x -> x.way(16, 15, i));
            CHECKS.refused("way(0, -1, " + i + ")", IllegalArgumentException.class, Scene.ONE, x -> x.way(0, -1, i));
            CHECKS.refused("way(0, 16, " + i + ")", IllegalArgumentException.class, Scene.ONE, x -> x.way(0, 16, i));
            CHECKS.refused("way(15, 0, " + i + ")", NoSuchElementException.class, Scene.ONE, x -> x.way(15, 0, i));
        }
        CHECKS.refused("way(0, 15, -1)", IndexOutOfBoundsException.class, Scene.ONE, x -> x.way(0, 15, -1));
        CHECKS.refused("way(0, 15, 2)", IndexOutOfBoundsException.class, Scene.ONE, x -> x.way(0, 15, 2));
    }
}
