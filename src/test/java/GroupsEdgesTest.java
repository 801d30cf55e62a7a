/** The edges that promises 5 to 8 name: group, members, rank, ranked. */
public final class GroupsEdgesTest {
    private static final Checks CHECKS = new Checks("edges of promises 5 to 8");

    public static void main(String[] args) {
        CHECKS.sentence("5: The name of the group of v, alone", GroupsEdgesTest::nameOfOneAlone);
        CHECKS.sentence("5: The name of the group of v, of all places", GroupsEdgesTest::nameOfAll);
        CHECKS.sentence("6: How many places the group of v has, alone", GroupsEdgesTest::sizeOfOneAlone);
        CHECKS.sentence("6: How many places the group of v has, of all places", GroupsEdgesTest::sizeOfAll);
        CHECKS.sentence("7: How many groups stand before that of v, alone", GroupsEdgesTest::rankOfOneAlone);
        CHECKS.sentence("7: How many groups stand before that of v, of all places", GroupsEdgesTest::rankOfAll);
        CHECKS.sentence("7: How many groups, not places", GroupsEdgesTest::rankCountsGroups);
        CHECKS.sentence("8: The name of the k-th group (from 0)", GroupsEdgesTest::firstAndLastOfTheOrder);
        CHECKS.sentence("8: Index out of bounds: there is none, k below 0", GroupsEdgesTest::beforeTheOrder);
        CHECKS.sentence("8: Index out of bounds: there is none, k too large", GroupsEdgesTest::behindTheOrder);
        CHECKS.sentence("5 to 8: groups that come and go", GroupsEdgesTest::joinedAndParted);
        CHECKS.finish();
    }

    private static void nameOfOneAlone() {
        for (Scene scene : new Scene[] {Scene.EMPTY, Scene.ONE, Scene.FULL_ROW}) {
            ArcAtlas x = scene.atlas();
            for (int p = 0; p < 16; p++) {
                CHECKS.due("group(" + p + ") (" + scene.name() + ")", x.group(p), p);
            }
        }
    }

    private static void nameOfAll() {
        for (Scene scene : new Scene[] {Scene.RING, Scene.FULL_ROUND}) {
            ArcAtlas x = scene.atlas();
            for (int p = 0; p < 16; p++) {
                CHECKS.due("group(" + p + ") (" + scene.name() + ")", x.group(p), 0);
            }
        }
    }

    private static void sizeOfOneAlone() {
        for (Scene scene : new Scene[] {Scene.EMPTY, Scene.ONE, Scene.FULL_ROW}) {
            ArcAtlas x = scene.atlas();
            for (int p = 0; p < 16; p++) {
                CHECKS.due("members(" + p + ") (" + scene.name() + ")", x.members(p), 1);
            }
        }
    }

    private static void sizeOfAll() {
        for (Scene scene : new Scene[] {Scene.RING, Scene.FULL_ROUND}) {
            ArcAtlas x = scene.atlas();
            for (int p = 0; p < 16; p++) {
                CHECKS.due("members(" + p + ") (" + scene.name() + ")", x.members(p), 16);
            }
        }
    }

    private static void rankOfOneAlone() {
        ArcAtlas none = Scene.EMPTY.atlas();
        ArcAtlas row = Scene.FULL_ROW.atlas();
        ArcAtlas turned = new ArcAtlas();
        for (int p = 15; p > 0; p--) {
            turned.add(p, p - 1);
        }
        for (int p = 0; p < 16; p++) {
            CHECKS.due("rank(" + p + ") without arrows", none.rank(p), p);
            CHECKS.due("rank(" + p + ") in a row upwards", row.rank(p), p);
            CHECKS.due("rank(" + p + ") in a row downwards", turned.rank(p), 15 - p);
        }
    }

    private static void rankOfAll() {
        for (Scene scene : new Scene[] {Scene.RING, Scene.FULL_ROUND}) {
            ArcAtlas x = scene.atlas();
            for (int p = 0; p < 16; p++) {
                CHECKS.due("rank(" + p + ") (" + scene.name() + ")", x.rank(p), 0);
            }
        }
    }

    private static void rankCountsGroups() {
        // A ring of 0 to 14 before 15: one group stands before 15, though 15 places do.
        ArcAtlas x = Checks.atlas(Checks.ring(15));
        x.add(14, 15);
        CHECKS.due("rank(15) behind a ring", x.rank(15), 1);
        CHECKS.due("rank(14) in the ring", x.rank(14), 0);
        x.remove(14, 15);
        x.add(15, 14);
        CHECKS.due("rank(15) before the ring", x.rank(15), 0);
        CHECKS.due("rank(0) in the ring", x.rank(0), 1);
        CHECKS.due("rank(14) in the ring", x.rank(14), 1);
    }

    private static void firstAndLastOfTheOrder() {
        ArcAtlas none = Scene.EMPTY.atlas();
        CHECKS.due("ranked(0) without arrows", none.ranked(0), 0);
        CHECKS.due("ranked(15) without arrows", none.ranked(15), 15);
        CHECKS.due("ranked(0) of one group", Scene.RING.atlas().ranked(0), 0);
        CHECKS.due("ranked(0) of one group, 80 arrows", Scene.FULL_ROUND.atlas().ranked(0), 0);
        CHECKS.due("ranked(0), 80 arrows", Scene.FULL.atlas().ranked(0), 0);
        CHECKS.due("ranked(10), 80 arrows", Scene.FULL.atlas().ranked(10), 15);
        CHECKS.due("ranked(15), 80 arrows in a row", Scene.FULL_ROW.atlas().ranked(15), 15);
        ArcAtlas two = Checks.atlas(Checks.ring(15));
        two.add(15, 0);
        CHECKS.due("ranked(0) of two groups", two.ranked(0), 15);
        CHECKS.due("ranked(1) of two groups", two.ranked(1), 0);
    }

    private static void beforeTheOrder() {
        for (Scene scene : Scene.ALL) {
            CHECKS.refused("ranked(-1)", IndexOutOfBoundsException.class, scene, x -> x.ranked(-1));
            CHECKS.refused("ranked(least)", IndexOutOfBoundsException.class, scene,
                    x -> x.ranked(Integer.MIN_VALUE));
        }
    }

    private static void behindTheOrder() {
        noneBehind(Scene.EMPTY, 16);
        noneBehind(Scene.ONE, 16);
        noneBehind(Scene.RING, 1);
        noneBehind(Scene.PARTED, 13);
        noneBehind(Scene.FULL, 11);
        noneBehind(Scene.FULL_ROUND, 1);
        noneBehind(Scene.FULL_ROW, 16);
        for (Scene scene : Scene.ALL) {
            CHECKS.refused("ranked(16)", IndexOutOfBoundsException.class, scene, x -> x.ranked(16));
            CHECKS.refused("ranked(most)", IndexOutOfBoundsException.class, scene,
                    x -> x.ranked(Integer.MAX_VALUE));
        }
    }

    private static void noneBehind(Scene scene, int groups) {
        ArcAtlas x = scene.atlas();
        int last = x.ranked(groups - 1);
        CHECKS.due("rank of the last group (" + scene.name() + ")", x.rank(last), groups - 1);
        for (int k = groups; k <= 16; k++) {
            int tooLarge = k;
            CHECKS.refused("ranked(" + k + ")", IndexOutOfBoundsException.class, scene, y -> y.ranked(tooLarge));
        }
    }

    private static void joinedAndParted() {
        ArcAtlas x = Checks.atlas(Checks.ring(16));
        x.remove(15, 0);
        for (int p = 0; p < 16; p++) {
            CHECKS.due("group(" + p + ") of the ring without its last arrow", x.group(p), p);
            CHECKS.due("members(" + p + ") of the ring without its last arrow", x.members(p), 1);
            CHECKS.due("rank(" + p + ") of the ring without its last arrow", x.rank(p), p);
            CHECKS.due("ranked(" + p + ") of the ring without its last arrow", x.ranked(p), p);
        }
        x.add(15, 0);
        CHECKS.due("group(15) of the ring again", x.group(15), 0);
        CHECKS.due("members(15) of the ring again", x.members(15), 16);
        CHECKS.due("rank(15) of the ring again", x.rank(15), 0);
        CHECKS.refused("ranked(1) of the ring again", IndexOutOfBoundsException.class, () -> x.ranked(1));
    }
}
