/** Promises 5 to 8: group, members, rank, ranked. */
public final class GroupsTest {
    private static final Checks CHECKS = new Checks("promises 5 to 8");

    public static void main(String[] args) {
        groups();
        groupsChange();
        order();
        orderIsNotByDepth();
        orderHasAllGroups();
        wrongArguments();
        CHECKS.finish();
    }

    private static void groups() {
        ArcAtlas x = Checks.atlas(9, 4, 4, 13, 13, 9, 4, 2, 2, 7, 7, 2, 15, 9);
        CHECKS.due("group(13)", x.group(13), 4);
        CHECKS.due("group(9)", x.group(9), 4);
        CHECKS.due("group(4)", x.group(4), 4);
        CHECKS.due("group(7)", x.group(7), 2);
        CHECKS.due("group(15)", x.group(15), 15);
        CHECKS.due("group(0)", x.group(0), 0);
        CHECKS.due("members(13)", x.members(13), 3);
        CHECKS.due("members(7)", x.members(7), 2);
        CHECKS.due("members(15)", x.members(15), 1);
        CHECKS.due("members(0)", x.members(0), 1);
    }

    private static void groupsChange() {
        ArcAtlas x = Checks.atlas(Checks.ring(16));
        CHECKS.due("group(15) in the ring", x.group(15), 0);
        CHECKS.due("members(15) in the ring", x.members(15), 16);
        CHECKS.due("rank(15) in the ring", x.rank(15), 0);
        CHECKS.due("ranked(0) in the ring", x.ranked(0), 0);
        x.remove(7, 8);
        CHECKS.due("group(15) in the row", x.group(15), 15);
        CHECKS.due("rank(7) in the row", x.rank(7), 15);
        CHECKS.due("ranked(0) in the row", x.ranked(0), 8);
        x.add(15, 8);
        CHECKS.due("group(15) with its half closed", x.group(15), 8);
        CHECKS.due("members(15) with its half closed", x.members(15), 8);
    }

    private static void order() {
        // Groups {3, 5} before 1, {2, 6} before 0; 4 and the rest stand free.
        ArcAtlas x = Checks.atlas(3, 5, 5, 3, 5, 1, 2, 6, 6, 2, 6, 0);
        int[] due = {2, 0, 3, 1, 4, 7, 8, 9, 10, 11, 12, 13, 14, 15};
        for (int k = 0; k < due.length; k++) {
            CHECKS.due("ranked(" + k + ")", x.ranked(k), due[k]);
            CHECKS.due("rank(" + due[k] + ")", x.rank(due[k]), k);
        }
        CHECKS.due("rank(5), not the least of its group", x.rank(5), 2);
        CHECKS.due("rank(6), not the least of its group", x.rank(6), 0);
    }

    private static void orderIsNotByDepth() {
        // 0 comes as soon as 1 stands, before 2, though 2 has nothing before it.
        ArcAtlas x = Checks.atlas(1, 0, 15, 3);
        int[] due = {1, 0, 2, 4};
        for (int k = 0; k < due.length; k++) {
            CHECKS.due("by names, ranked(" + k + ")", x.ranked(k), due[k]);
        }
        CHECKS.due("by names, rank(15)", x.rank(15), 14);
        CHECKS.due("by names, rank(3)", x.rank(3), 15);
    }

    private static void orderHasAllGroups() {
        ArcAtlas x = new ArcAtlas();
        for (int p = 15; p > 0; p--) {
            x.add(p, p - 1);
        }
        for (int k = 0; k < 16; k++) {
            CHECKS.due("the row turned round, ranked(" + k + ")", x.ranked(k), 15 - k);
        }
    }

    private static void wrongArguments() {
        ArcAtlas x = Checks.atlas(0, 1, 1, 0);
        int[] wrong = {-1, 16, Integer.MIN_VALUE, Integer.MAX_VALUE};
        for (int w : wrong) {
            CHECKS.refused("group(" + w + ")", IllegalArgumentException.class, () -> x.group(w));
            CHECKS.refused("members(" + w + ")", IllegalArgumentException.class, () -> x.members(w));
            CHECKS.refused("rank(" + w + ")", IllegalArgumentException.class, () -> x.rank(w));
            CHECKS.refused("ranked(" + w + ")", IndexOutOfBoundsException.class, () -> x.ranked(w));
        }
        CHECKS.due("the last group", x.ranked(14), 15);
        CHECKS.refused("ranked behind the last group", IndexOutOfBoundsException.class, () -> x.ranked(15));
    }
}
