/** Promises 1 to 4: a new object, add, remove, clear. */
public final class ChangesTest {
    private static final Checks CHECKS = new Checks("promises 1 to 4");

    public static void main(String[] args) {
        newObject();
        add();
        addAtTheLimit();
        wrongArguments();
        remove();
        clear();
        twoObjects();
        CHECKS.finish();
    }

    private static void newObject() {
        ArcAtlas x = new ArcAtlas();
        CHECKS.due("new, figure(0)", x.figure(0), 0);
        CHECKS.due("new, figure(1)", x.figure(1), 16);
        for (int p = 0; p < 16; p++) {
            CHECKS.due("new, group(" + p + ")", x.group(p), p);
            CHECKS.due("new, members(" + p + ")", x.members(p), 1);
            CHECKS.due("new, ranked(" + p + ")", x.ranked(p), p);
        }
        CHECKS.due("new, reaches(0, 15)", x.reaches(0, 15), false);
    }

    private static void add() {
        ArcAtlas x = new ArcAtlas();
        CHECKS.due("add(0, 15)", x.add(0, 15), true);
        CHECKS.due("add(0, 15) again", x.add(0, 15), false);
        CHECKS.due("figure(0) after it", x.figure(0), 1);
        CHECKS.due("the arrow leads there", x.reaches(0, 15), true);
        CHECKS.due("and not back", x.reaches(15, 0), false);
        CHECKS.due("add(15, 0)", x.add(15, 0), true);
        CHECKS.due("figure(0) with both", x.figure(0), 2);
    }

    private static void addAtTheLimit() {
        ArcAtlas x = Checks.atlas(Checks.firstArrows(79));
        CHECKS.due("the 80th arrow", x.add(15, 0), true);
        CHECKS.due("figure(0) at the limit", x.figure(0), 80);
        CHECKS.due("add of one that is there, at the limit", x.add(15, 0), false);
        CHECKS.refused("the 81st arrow", IllegalStateException.class, () -> x.add(15, 1));
        CHECKS.refused("add(3, 3) at the limit", IllegalArgumentException.class, () -> x.add(3, 3));
        CHECKS.refused("add(15, 16) at the limit", IllegalArgumentException.class, () -> x.add(15, 16));
        CHECKS.due("figure(0) after what was refused", x.figure(0), 80);
        CHECKS.due("distance(15, 1) after what was refused", x.distance(15, 1), 2);
        CHECKS.due("remove at the limit", x.remove(15, 0), true);
        CHECKS.due("add after it", x.add(15, 1), true);
        CHECKS.due("clear at the limit", x.clear(), 80);
        CHECKS.due("add after clear", x.add(15, 0), true);
    }

    private static void wrongArguments() {
        ArcAtlas x = Checks.atlas(0, 1);
        int[] wrong = {-1, 16, Integer.MIN_VALUE, Integer.MAX_VALUE};
        for (int w : wrong) {
            CHECKS.refused("add(" + w + ", 0)", IllegalArgumentException.class, () -> x.add(w, 0));
            CHECKS.refused("add(0, " + w + ")", IllegalArgumentException.class, () -> x.add(0, w));
            CHECKS.refused("remove(" + w + ", 1)", IllegalArgumentException.class, () -> x.remove(w, 1));
            CHECKS.refused("remove(0, " + w + ")", IllegalArgumentException.class, () -> x.remove(0, w));
        }
        for (int p = 0; p < 16; p++) {
            int q = p;
            CHECKS.refused("add of a place to itself", IllegalArgumentException.class, () -> x.add(q, q));
        }
        CHECKS.refused("add(16, 16)", IllegalArgumentException.class, () -> x.add(16, 16));
        CHECKS.refused("remove(16, 16)", IllegalArgumentException.class, () -> x.remove(16, 16));
        CHECKS.due("figure(0) after wrong arguments", x.figure(0), 1);
        CHECKS.due("distance(0, 1) after wrong arguments", x.distance(0, 1), 1);
    }

    private static void remove() {
        ArcAtlas x = Checks.atlas(0, 1, 1, 0, 1, 2);
        CHECKS.due("remove of none", x.remove(2, 1), false);
        CHECKS.due("remove(2, 2)", x.remove(2, 2), false);
        CHECKS.due("figure(0) after both", x.figure(0), 3);
        CHECKS.due("remove(0, 1)", x.remove(0, 1), true);
        CHECKS.due("remove(0, 1) again", x.remove(0, 1), false);
        CHECKS.due("figure(0) after it", x.figure(0), 2);
        CHECKS.due("reaches(0, 1) after it", x.reaches(0, 1), false);
        CHECKS.due("reaches(1, 0) after it", x.reaches(1, 0), true);
        CHECKS.due("reaches(1, 2) after it", x.reaches(1, 2), true);
    }

    private static void clear() {
        ArcAtlas x = Checks.atlas(Checks.ring(16));
        CHECKS.due("clear of a ring", x.clear(), 16);
        CHECKS.due("clear again", x.clear(), 0);
        CHECKS.due("figure(0) after clear", x.figure(0), 0);
        CHECKS.due("figure(1) after clear", x.figure(1), 16);
        CHECKS.due("reaches(0, 1) after clear", x.reaches(0, 1), false);
        CHECKS.due("remove after clear", x.remove(0, 1), false);
    }

    private static void twoObjects() {
        ArcAtlas x = Checks.atlas(0, 1);
        ArcAtlas y = Checks.atlas(1, 0);
        CHECKS.due("one of two objects", x.reaches(1, 0), false);
        CHECKS.due("the other one", y.reaches(0, 1), false);
    }
}
