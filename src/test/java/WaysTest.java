import java.util.NoSuchElementException;

/** Promises 9 to 11: reaches, distance, way. */
public final class WaysTest {
    private static final Checks CHECKS = new Checks("promises 9 to 11");

    public static void main(String[] args) {
        reaches();
        distance();
        way();
        wayOfOnePlace();
        firstWay();
        firstWayIsTheShortest();
        wrongArguments();
        exceptionsInTheirOrder();
        CHECKS.finish();
    }

    private static void reaches() {
        ArcAtlas x = Checks.atlas(14, 3, 3, 8, 8, 0);
        CHECKS.due("reaches(14, 0)", x.reaches(14, 0), true);
        CHECKS.due("reaches(0, 14)", x.reaches(0, 14), false);
        CHECKS.due("reaches(8, 3)", x.reaches(8, 3), false);
        CHECKS.due("reaches(15, 15)", x.reaches(15, 15), true);
        x.add(0, 14);
        CHECKS.due("reaches(8, 3) with the ring closed", x.reaches(8, 3), true);
        x.remove(14, 3);
        CHECKS.due("reaches(8, 3) with it open again", x.reaches(8, 3), false);
        ArcAtlas ring = Checks.atlas(Checks.ring(16));
        CHECKS.due("reaches(1, 0) by all places", ring.reaches(1, 0), true);
    }

    private static void distance() {
        ArcAtlas x = Checks.atlas(Checks.ring(16));
        CHECKS.due("distance(1, 0) in the ring", x.distance(1, 0), 15);
        CHECKS.due("distance(0, 1) in the ring", x.distance(0, 1), 1);
        CHECKS.due("distance(9, 9) in the ring", x.distance(9, 9), 0);
        x.add(3, 12);
        CHECKS.due("distance(1, 0) with a shorter way", x.distance(1, 0), 7);
        x.remove(15, 0);
        CHECKS.due("distance(1, 0) without a way", x.distance(1, 0), -1);
    }

    private static void way() {
        ArcAtlas x = Checks.atlas(Checks.ring(16));
        for (int i = 0; i < 16; i++) {
            CHECKS.due("way(1, 0, " + i + ") in the ring", x.way(1, 0, i), (i + 1) % 16);
        }
        CHECKS.refused("way(1, 0, 16)", IndexOutOfBoundsException.class, () -> x.way(1, 0, 16));
        CHECKS.refused("way(1, 0, -1)", IndexOutOfBoundsException.class, () -> x.way(1, 0, -1));
        CHECKS.refused("way(1, 3, 3)", IndexOutOfBoundsException.class, () -> x.way(1, 3, 3));
    }

    private static void wayOfOnePlace() {
        ArcAtlas x = Checks.atlas(5, 6, 6, 5);
        CHECKS.due("way(5, 5, 0)", x.way(5, 5, 0), 5);
        CHECKS.refused("way(5, 5, 1)", IndexOutOfBoundsException.class, () -> x.way(5, 5, 1));
    }

    private static void firstWay() {
        // From 0 to 9 by 2 and 8 or by 3 and 7: the first parting counts, not the later places.
        ArcAtlas x = Checks.atlas(0, 3, 3, 7, 7, 9, 0, 2, 2, 8, 8, 9);
        checkWay(x, 0, 9, 2, 8);
        x.add(2, 6);
        checkWay(x, 0, 9, 2, 8);
        x.add(6, 9);
        checkWay(x, 0, 9, 2, 6);
        x.remove(0, 2);
        checkWay(x, 0, 9, 3, 7);
    }

    private static void firstWayIsTheShortest() {
        ArcAtlas x = Checks.atlas(4, 0, 0, 1, 1, 2, 4, 3, 3, 2);
        CHECKS.due("the longer way by lesser places", x.way(4, 2, 1), 3);
        CHECKS.due("its end", x.way(4, 2, 2), 2);
    }

    private static void checkWay(ArcAtlas x, int u, int v, int second, int third) {
        CHECKS.due("way, place 0", x.way(u, v, 0), u);
        CHECKS.due("way, place 1", x.way(u, v, 1), second);
        CHECKS.due("way, place 2", x.way(u, v, 2), third);
        CHECKS.due("way, place 3", x.way(u, v, 3), v);
    }

    private static void wrongArguments() {
        ArcAtlas x = Checks.atlas(0, 1);
        int[] wrong = {-1, 16, Integer.MIN_VALUE, Integer.MAX_VALUE};
        for (int w : wrong) {
            CHECKS.refused("reaches(" + w + ", 0)", IllegalArgumentException.class, () -> x.reaches(w, 0));
            CHECKS.refused("reaches(0, " + w + ")", IllegalArgumentException.class, () -> x.reaches(0, w));
            CHECKS.refused("distance(" + w + ", 0)", IllegalArgumentException.class, () -> x.distance(w, 0));
            CHECKS.refused("distance(0, " + w + ")", IllegalArgumentException.class, () -> x.distance(0, w));
            CHECKS.refused("way(" + w + ", 0, 0)", IllegalArgumentException.class, () -> x.way(w, 0, 0));
            CHECKS.refused("way(0, " + w + ", 0)", IllegalArgumentException.class, () -> x.way(0, w, 0));
        }
        CHECKS.refused("reaches(16, 16)", IllegalArgumentException.class, () -> x.reaches(16, 16));
        CHECKS.refused("distance(16, 16)", IllegalArgumentException.class, () -> x.distance(16, 16));
    }

    private static void exceptionsInTheirOrder() {
        ArcAtlas x = Checks.atlas(0, 1);
        CHECKS.refused("way(16, 0, -1)", IllegalArgumentException.class, () -> x.way(16, 0, -1));
        CHECKS.refused("way(1, 0, 0)", NoSuchElementException.class, () -> x.way(1, 0, 0));
        CHECKS.refused("way(1, 0, -1)", NoSuchElementException.class, () -> x.way(1, 0, -1));
        CHECKS.refused("way(0, 1, 2)", IndexOutOfBoundsException.class, () -> x.way(0, 1, 2));
        int least = Integer.MIN_VALUE;
        int most = Integer.MAX_VALUE;
        CHECKS.refused("way(0, 1, least)", IndexOutOfBoundsException.class, () -> x.way(0, 1, least));
        CHECKS.refused("way(0, 1, most)", IndexOutOfBoundsException.class, () -> x.way(0, 1, most));
    }
}
