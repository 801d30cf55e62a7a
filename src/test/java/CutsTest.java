/** Promises 14 and 15: places, arrows. */
public final class CutsTest {
    private static final Checks CHECKS = new Checks("promises 14 and 15");

    public static void main(String[] args) {
        noneToPart();
        neckOfAPlace();
        neckOfArrows();
        mostWays();
        aWayTakenBack();
        aWayTakenBackOnce();
        longestWay();
        askedInTurn();
        arrowsToAndFro();
        wrongArguments();
        CHECKS.finish();
    }

    private static void noneToPart() {
        ArcAtlas x = Checks.atlas(0, 1, 1, 2);
        CHECKS.due("places(2, 0), not reached", x.places(2, 0), 0);
        CHECKS.due("arrows(2, 0), not reached", x.arrows(2, 0), 0);
        CHECKS.due("places(0, 0)", x.places(0, 0), -1);
        CHECKS.due("arrows(0, 0)", x.arrows(0, 0), -1);
        CHECKS.due("places(0, 1), an arrow", x.places(0, 1), -1);
        CHECKS.due("places(1, 0), an arrow back only", x.places(1, 0), 0);
        CHECKS.due("arrows(0, 1), an arrow", x.arrows(0, 1), 1);
        CHECKS.due("places(0, 2)", x.places(0, 2), 1);
        CHECKS.due("arrows(0, 2)", x.arrows(0, 2), 1);
    }

    private static void neckOfAPlace() {
        ArcAtlas x = Checks.atlas(0, 1, 0, 2, 1, 3, 2, 3, 3, 4, 3, 5, 4, 6, 5, 6);
        CHECKS.due("places(0, 6) through 3", x.places(0, 6), 1);
        CHECKS.due("arrows(0, 6) through 3", x.arrows(0, 6), 2);
        x.add(2, 4);
        CHECKS.due("places(0, 6) past 3", x.places(0, 6), 2);
        CHECKS.due("arrows(0, 6) past 3", x.arrows(0, 6), 2);
    }

    private static void neckOfArrows() {
        ArcAtlas x = Checks.atlas(0, 1, 0, 2, 0, 3, 1, 3, 2, 3, 3, 4);
        CHECKS.due("arrows(0, 4) over one", x.arrows(0, 4), 1);
        CHECKS.due("arrows(0, 3)", x.arrows(0, 3), 3);
        x.add(1, 4);
        CHECKS.due("arrows(0, 4) over two", x.arrows(0, 4), 2);
        CHECKS.due("places(0, 4)", x.places(0, 4), 2);
    }

    private static void mostWays() {
        ArcAtlas x = new ArcAtlas();
        for (int p = 1; p < 15; p++) {
            x.add(0, p);
            x.add(p, 15);
        }
        CHECKS.due("places(0, 15) by all others", x.places(0, 15), 14);
        CHECKS.due("arrows(0, 15) by all others", x.arrows(0, 15), 14);
        x.add(0, 15);
        CHECKS.due("places(0, 15) with an arrow too", x.places(0, 15), -1);
        CHECKS.due("arrows(0, 15) with an arrow too", x.arrows(0, 15), 15);
        CHECKS.due("figure(0), nothing taken away by asking", x.figure(0), 29);
    }

    private static void aWayTakenBack() {
        // The first shortest way from 0 to 7 goes by 1 and 4 and stops both of the other ways.
        ArcAtlas x = Checks.atlas(0, 1, 1, 4, 4, 7, 0, 2, 2, 3, 3, 4, 1, 5, 5, 6, 6, 7);
        CHECKS.due("arrows(0, 7)", x.arrows(0, 7), 2);
        CHECKS.due("places(0, 7)", x.places(0, 7), 2);
    }

    private static void aWayTakenBackOnce() {
        // Two more ways come to 4 and two more leave 1, but only one thing can be turned round there.
        ArcAtlas x = Checks.atlas(0, 1, 1, 4, 4, 15, 0, 2, 2, 7, 7, 4, 0, 3, 3, 8, 8, 4,
                1, 5, 5, 9, 9, 15, 1, 6, 6, 10, 10, 15);
        CHECKS.due("arrows(0, 15)", x.arrows(0, 15), 2);
        CHECKS.due("places(0, 15)", x.places(0, 15), 2);
    }

    private static void longestWay() {
        ArcAtlas x = Checks.atlas(Checks.ring(16));
        CHECKS.due("places(1, 0) in the ring", x.places(1, 0), 1);
        CHECKS.due("arrows(1, 0) in the ring", x.arrows(1, 0), 1);
    }

    private static void askedInTurn() {
        ArcAtlas x = Checks.atlas(0, 1, 1, 2, 0, 3, 3, 2);
        for (int turn = 0; turn < 3; turn++) {
            CHECKS.due("places(0, 2) in turn", x.places(0, 2), 2);
            CHECKS.due("arrows(0, 2) in turn", x.arrows(0, 2), 2);
            CHECKS.due("arrows(2, 0) in turn", x.arrows(2, 0), 0);
        }
    }

    private static void arrowsToAndFro() {
        // 1 and 2 lead to each other, and ways cross there in both directions.
        ArcAtlas x = Checks.atlas(0, 1, 0, 2, 1, 2, 2, 1, 1, 3, 2, 3);
        CHECKS.due("arrows(0, 3)", x.arrows(0, 3), 2);
        CHECKS.due("places(0, 3)", x.places(0, 3), 2);
        CHECKS.due("arrows(0, 1)", x.arrows(0, 1), 2);
        CHECKS.due("arrows(1, 2)", x.arrows(1, 2), 1);
    }

    private static void wrongArguments() {
        ArcAtlas x = Checks.atlas(0, 1);
        int[] wrong = {-1, 16, Integer.MIN_VALUE, Integer.MAX_VALUE};
        for (int w : wrong) {
            CHECKS.refused("places(" + w + ", 0)", IllegalArgumentException.class, () -> x.places(w, 0));
            CHECKS.refused("places(0, " + w + ")", IllegalArgumentException.class, () -> x.places(0, w));
            CHECKS.refused("places of a wrong one twice", IllegalArgumentException.class, () -> x.places(w, w));
            CHECKS.refused("arrows(" + w + ", 0)", IllegalArgumentException.class, () -> x.arrows(w, 0));
            CHECKS.refused("arrows(0, " + w + ")", IllegalArgumentException.class, () -> x.arrows(0, w));
            CHECKS.refused("arrows of a wrong one twice", IllegalArgumentException.class, () -> x.arrows(w, w));
        }
    }
}
