/** Promise 16: figure. */
public final class FigureTest {
    private static final Checks CHECKS = new Checks("promise 16");

    public static void main(String[] args) {
        noArrows();
        ringAndRow();
        pairsOfGroups();
        onlySo();
        longestWay();
        neededArrows();
        fullWeb();
        wrongArguments();
        CHECKS.finish();
    }

    private static void check(String web, ArcAtlas x, int... due) {
        for (int k = 0; k < due.length; k++) {
            CHECKS.due(web + ", figure(" + k + ")", x.figure(k), due[k]);
        }
    }

    private static void noArrows() {
        check("no arrows", new ArcAtlas(), 0, 16, 0, 0, 1, 0);
    }

    private static void ringAndRow() {
        ArcAtlas x = Checks.atlas(Checks.ring(16));
        check("ring", x, 16, 1, 0, 0, 1, 16);
        x.remove(15, 0);
        check("row", x, 15, 16, 15, 15, 16, 15);
        x.remove(7, 8);
        check("row in two", x, 14, 16, 14, 14, 8, 14);
        x.clear();
        check("row taken away", x, 0, 16, 0, 0, 1, 0);
    }

    private static void pairsOfGroups() {
        // Two groups of two with three arrows between them: one pair, and no arrow of the three matters.
        ArcAtlas x = Checks.atlas(0, 1, 1, 0, 2, 3, 3, 2, 0, 2, 0, 3, 1, 2);
        check("two groups", x, 7, 14, 1, 1, 2, 4);
        x.remove(0, 3);
        x.remove(1, 2);
        check("two groups over one arrow", x, 5, 14, 1, 1, 2, 5);
    }

    private static void onlySo() {
        ArcAtlas x = Checks.atlas(0, 1, 1, 2, 0, 2);
        check("a shorter way", x, 3, 16, 3, 2, 3, 2);
        x.add(2, 3);
        x.add(0, 3);
        check("two shorter ways", x, 5, 16, 5, 3, 4, 3);
    }

    private static void longestWay() {
        // The longest way goes by the groups 8, {0, 5}, 3, 12, the shorter one from 8 to 12 straight.
        ArcAtlas x = Checks.atlas(8, 5, 5, 0, 0, 5, 0, 3, 3, 12, 8, 12, 1, 12);
        CHECKS.due("longest way, figure(4)", x.figure(4), 4);
        x.remove(3, 12);
        CHECKS.due("a shorter one, figure(4)", x.figure(4), 3);
    }

    private static void neededArrows() {
        ArcAtlas x = Checks.atlas(0, 1, 0, 2, 1, 3, 2, 3);
        check("two ways to 3", x, 4, 16, 4, 4, 3, 4);
        x.add(0, 3);
        check("three ways to 3", x, 5, 16, 5, 4, 3, 4);
        // A ring with an arrow across it, which is not needed, and one that leads on, which is.
        ArcAtlas y = Checks.atlas(0, 1, 1, 2, 2, 3, 3, 0, 0, 2, 2, 9);
        CHECKS.due("arrow across a ring, figure(5)", y.figure(5), 5);
        CHECKS.due("figure(0), nothing taken away by asking", y.figure(0), 6);
    }

    private static void fullWeb() {
        ArcAtlas x = new ArcAtlas();
        for (int u = 0; u < 9; u++) {
            for (int v = 0; v < 9; v++) {
                if (u != v) {
                    x.add(u, v);
                }
            }
        }
        check("nine places with all arrows", x, 72, 8, 0, 0, 1, 0);
    }

    private static void wrongArguments() {
        ArcAtlas x = new ArcAtlas();
        int[] wrong = {-1, 6, 16, Integer.MIN_VALUE, Integer.MAX_VALUE};
        for (int w : wrong) {
            CHECKS.refused("figure(" + w + ")", IllegalArgumentException.class, () -> x.figure(w));
        }
    }
}
