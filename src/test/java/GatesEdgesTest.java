import java.util.NoSuchElementException;

/** The edges that promises 12 and 13 name: gate, gated. */
public final class GatesEdgesTest {
    private static final Checks CHECKS = new Checks("edges of promises 12 and 13");

    public static void main(String[] args) {
        CHECKS.sentence("12: The one of the places d on which v is dependent, r alone", GatesEdgesTest::onlyTheStart);
        CHECKS.sentence("12: that is not v itself and is dependent on all others", GatesEdgesTest::theLastOne);
        CHECKS.sentence("12: -1 when v is r", GatesEdgesTest::gateOfTheStart);
        CHECKS.sentence("12: no such element: r does not reach v", GatesEdgesTest::gateOfNone);
        CHECKS.sentence("12: Illegal argument; no such element", GatesEdgesTest::inTheirOrder);
        CHECKS.sentence("13: How many places are dependent on d, d itself among them", GatesEdgesTest::itself);
        CHECKS.sentence("13: How many places are dependent on d, d is r", GatesEdgesTest::onTheStart);
        CHECKS.sentence("13: 0 when r does not reach d", GatesEdgesTest::onOneNotReached);
        CHECKS.finish();
    }

    private static void onlyTheStart() {
        CHECKS.due("gate(0, 15) over an arrow", Scene.ONE.atlas().gate(0, 15), 0);
        ArcAtlas full = Scene.FULL.atlas();
        ArcAtlas round = Scene.FULL_ROUND.atlas();
        for (int v = 1; v < 16; v++) {
            CHECKS.due("gate(0, " + v + "), 80 arrows", full.gate(0, v), 0);
            CHECKS.due("gate(0, " + v + "), 80 arrows round", round.gate(0, v), 0);
        }
        ArcAtlas both = Checks.atlas(7, 3, 3, 2, 7, 2);
        CHECKS.due("gate(7, 2), an arrow and a longer way", both.gate(7, 2), 7);
    }

    private static void theLastOne() {
        ArcAtlas ring = Scene.RING.atlas();
        for (int v = 1; v < 16; v++) {
            CHECKS.due("gate(0, " + v + ") in the ring", ring.gate(0, v), v - 1);
        }
        CHECKS.due("gate(1, 0) by all places", ring.gate(1, 0), 15);
        // All ways to 4 pass 9 and then 2, which part before and behind 9 but not at 2.
        ArcAtlas x = Checks.atlas(0, 5, 0, 6, 5, 9, 6, 9, 9, 7, 9, 8, 7, 2, 8, 2, 2, 4);
        CHECKS.due("gate(0, 4)", x.gate(0, 4), 2);
        CHECKS.due("gate(0, 2)", x.gate(0, 2), 9);
        CHECKS.due("gate(0, 9)", x.gate(0, 9), 0);
        CHECKS.due("gate(0, 7)", x.gate(0, 7), 9);
        // A way back from v to its gate changes nothing.
        x.add(4, 2);
        x.add(4, 0);
        CHECKS.due("gate(0, 4) with ways back", x.gate(0, 4), 2);
        CHECKS.due("gate(0, 2) with ways back", x.gate(0, 2), 9);
    }

    private static void gateOfTheStart() {
        for (Scene scene : Scene.ALL) {
            ArcAtlas x = scene.atlas();
            for (int r = 0; r < 16; r++) {
                CHECKS.due("gate(r, r), r = " + r + " (" + scene.name() + ")", x.gate(r, r), -1);
            }
        }
    }

    private static void gateOfNone() {
        CHECKS.refused("gate(4, 5)", NoSuchElementException.class, Scene.EMPTY, x -> x.gate(4, 5));
        CHECKS.refused("gate(15, 0)", NoSuchElementException.class, Scene.ONE, x -> x.gate(15, 0));
        CHECKS.refused("gate(0, 14)", NoSuchElementException.class, Scene.ONE, x -> x.gate(0, 14));
        CHECKS.refused("gate(6, 5)", NoSuchElementException.class, Scene.PARTED, x -> x.gate(6, 5));
        CHECKS.refused("gate(15, 0)", NoSuchElementException.class, Scene.FULL, x -> x.gate(15, 0));
        CHECKS.refused("gate(15, 14)", NoSuchElementException.class, Scene.FULL_ROW, x -> x.gate(15, 14));
    }

    private static void inTheirOrder() {
        for (Scene scene : Scene.ALL) {
            CHECKS.refused("gate(-1, 0)", IllegalArgumentException.class, scene, x -> x.gate(-1, 0));
            CHECKS.refused("gate(16, 0)", IllegalArgumentException.class, scene, x -> x.gate(16, 0));
            CHECKS.refused("gate(15, -1)", IllegalArgumentException.class, scene, x -> x.gate(15, -1));
            CHECKS.refused("gate(15, 16)", IllegalArgumentException.class, scene, x -> x.gate(15, 16));
            // Not -1, though v is r.
            CHECKS.refused("gate(-1, -1)", IllegalArgumentException.class, scene, x -> x.gate(-1, -1));
            CHECKS.refused("gate(16, 16)", IllegalArgumentException.class, scene, x -> x.gate(16, 16));
        }
    }

    private static void itself() {
        CHECKS.due("gated(0, 15), the end of the only arrow", Scene.ONE.atlas().gated(0, 15), 1);
        ArcAtlas ring = Scene.RING.atlas();
        for (int d = 0; d < 16; d++) {
            CHECKS.due("gated(0, " + d + ") in the ring", ring.gated(0, d), 16 - d);
        }
        ArcAtlas full = Scene.FULL.atlas();
        for (int d = 1; d < 16; d++) {
            CHECKS.due("gated(0, " + d + "), 80 arrows", full.gated(0, d), 1);
        }
    }

    private static void onTheStart() {
        ArcAtlas one = Scene.ONE.atlas();
        ArcAtlas row = Scene.FULL_ROW.atlas();
        ArcAtlas ring = Scene.RING.atlas();
        ArcAtlas none = Scene.EMPTY.atlas();
        CHECKS.due("gated(0, 0), one other reached", one.gated(0, 0), 2);
        CHECKS.due("gated(15, 15), none other reached", one.gated(15, 15), 1);
        for (int r = 0; r < 16; r++) {
            CHECKS.due("gated(r, r) without arrows, r = " + r, none.gated(r, r), 1);
            CHECKS.due("gated(r, r) in the ring, r = " + r, ring.gated(r, r), 16);
            CHECKS.due("gated(r, r) in the row, r = " + r, row.gated(r, r), 16 - r);
        }
    }

    private static void onOneNotReached() {
        CHECKS.due("gated(4, 5) without arrows", Scene.EMPTY.atlas().gated(4, 5), 0);
        CHECKS.due("gated(15, 0), an arrow back only", Scene.ONE.atlas().gated(15, 0), 0);
        CHECKS.due("gated(6, 5)", Scene.PARTED.atlas().gated(6, 5), 0);
        CHECKS.due("gated(15, 0), 80 arrows", Scene.FULL.atlas().gated(15, 0), 0);
        CHECKS.due("gated(15, 14), 80 arrows", Scene.FULL_ROW.atlas().gated(15, 14), 0);
        // 3 leads to what 0 reaches, but 0 does not reach 3.
        CHECKS.due("gated(0, 3)", Checks.atlas(0, 1, 3, 1, 1, 2).gated(0, 3), 0);
    }
}
