import java.util.NoSuchElementException;

/** Promises 12 and 13: gate, gated. */
public final class GatesTest {
    private static final Checks CHECKS = new Checks("promises 12 and 13");

    public static void main(String[] args) {
        rowOfGates();
        waysThatPart();
        waysThatComeBack();
        fromAnotherPlace();
        notReached();
        wrongArguments();
        CHECKS.finish();
    }

    private static void rowOfGates() {
        ArcAtlas x = Checks.atlas(9, 2, 2, 14, 14, 0);
        CHECKS.due("gate(9, 0)", x.gate(9, 0), 14);
        CHECKS.due("gate(9, 14)", x.gate(9, 14), 2);
        CHECKS.due("gate(9, 2)", x.gate(9, 2), 9);
        CHECKS.due("gate(9, 9)", x.gate(9, 9), -1);
        CHECKS.due("gated(9, 9)", x.gated(9, 9), 4);
        CHECKS.due("gated(9, 2)", x.gated(9, 2), 3);
        CHECKS.due("gated(9, 0)", x.gated(9, 0), 1);
    }

    private static void waysThatPart() {
        // 0 to 1, there the ways part by 2 and 3, meet in 4 and lead on to 5.
        ArcAtlas x = Checks.atlas(0, 1, 1, 2, 1, 3, 2, 4, 3, 4, 4, 5);
        CHECKS.due("gate(0, 4)", x.gate(0, 4), 1);
        CHECKS.due("gate(0, 5)", x.gate(0, 5), 4);
        CHECKS.due("gated(0, 1)", x.gated(0, 1), 5);
        CHECKS.due("gated(0, 2)", x.gated(0, 2), 1);
        CHECKS.due("gated(0, 4)", x.gated(0, 4), 2);
        x.add(0, 3);
        CHECKS.due("gate(0, 4) past 1", x.gate(0, 4), 0);
        CHECKS.due("gated(0, 1) past 1", x.gated(0, 1), 2);
        CHECKS.due("gated(0, 0) past 1", x.gated(0, 0), 6);
    }

    private static void waysThatComeBack() {
        ArcAtlas x = Checks.atlas(0, 1, 1, 2, 2, 1, 2, 0);
        CHECKS.due("gate(0, 2)", x.gate(0, 2), 1);
        CHECKS.due("gate(0, 0), though ways come back to it", x.gate(0, 0), -1);
        CHECKS.due("gated(0, 1)", x.gated(0, 1), 2);
        CHECKS.due("gated(0, 0)", x.gated(0, 0), 3);
    }

    private static void fromAnotherPlace() {
        ArcAtlas x = Checks.atlas(0, 1, 1, 2, 3, 2);
        CHECKS.due("gate(0, 2)", x.gate(0, 2), 1);
        CHECKS.due("gate(3, 2)", x.gate(3, 2), 3);
        CHECKS.due("gated(3, 2)", x.gated(3, 2), 1);
        CHECKS.due("gated(3, 1), not reached", x.gated(3, 1), 0);
    }

    private static void notReached() {
        ArcAtlas x = Checks.atlas(0, 1);
        CHECKS.refused("gate(1, 0)", NoSuchElementException.class, () -> x.gate(1, 0));
        CHECKS.due("gated(1, 0)", x.gated(1, 0), 0);
        CHECKS.due("gated(15, 15)", x.gated(15, 15), 1);
        CHECKS.due("gate(15, 15)", x.gate(15, 15), -1);
    }

    private static void wrongArguments() {
        ArcAtlas x = Checks.atlas(0, 1);
        int[] wrong = {-1, 16, Integer.MIN_VALUE, Integer.MAX_VALUE};
        for (int w : wrong) {
            CHECKS.refused("gate(" + w + ", 0)", IllegalArgumentException.class, () -> x.gate(w, 0));
            CHECKS.refused("gate(0, " + w + ")", IllegalArgumentException.class, () -> x.gate(0, w));
            CHECKS.refused("gate of a wrong place twice", IllegalArgumentException.class, () -> x.gate(w, w));
            CHECKS.refused("gated(" + w + ", 0)", IllegalArgumentException.class, () -> x.gated(w, 0));
            CHECKS.refused("gated(0, " + w + ")", IllegalArgumentException.class, () -> x.gated(0, w));
        }
    }
}
