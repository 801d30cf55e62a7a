import java.util.NoSuchElementException;
import java.util.function.Consumer;
import java.util.function.Function;

/** The edges that the document names before its promises: 'What it is' and 'Terms'. */
public final class TermsEdgesTest {
    private static final Checks CHECKS = new Checks("terms");
    private static final int[] NO_PLACES = {-1, 16, Integer.MIN_VALUE, Integer.MAX_VALUE};

    public static void main(String[] args) {
        CHECKS.sentence("used for at most 512 calls after it has been made", TermsEdgesTest::lastCall);
        CHECKS.sentence("PLACES are 0 .. 15", TermsEdgesTest::firstAndLastPlace);
        CHECKS.sentence("An ARROW leads to another one (never to itself)", TermsEdgesTest::neverToItself);
        CHECKS.sentence("of each pair there is one at most", TermsEdgesTest::oneOfEachPair);
        CHECKS.sentence("there are at most 80", TermsEdgesTest::atMostEighty);
        CHECKS.sentence("with an arrow from each to the next", TermsEdgesTest::waysDoNotGoBack);
        CHECKS.sentence("(u) is a way from u to u of length 0", TermsEdgesTest::wayOfLengthNone);
        CHECKS.sentence("u REACHES v if there is a way", TermsEdgesTest::reachesByLongestWay);
        CHECKS.sentence("with all places for which that holds", TermsEdgesTest::groupHasAll);
        CHECKS.sentence("a place that no other one reaches back is a group alone", TermsEdgesTest::groupAlone);
        CHECKS.sentence("A group is named by its least place", TermsEdgesTest::leastPlace);
        CHECKS.sentence("LEADS if an arrow leads; then it is BEFORE that one", TermsEdgesTest::leadsByAnyPlace);
        CHECKS.sentence("THE ORDER is a row of all groups, begun with none", TermsEdgesTest::orderOfAllGroups);
        CHECKS.sentence("the one with the least name is put behind", TermsEdgesTest::leastNameOfTheFree);
        CHECKS.sentence("before which are only groups that are in it", TermsEdgesTest::allBeforeAreIn);
        CHECKS.sentence("DEPENDENT (r reaches v)", TermsEdgesTest::notReachedIsNotDependent);
        CHECKS.sentence("DEPENDENT if every way has d in it", TermsEdgesTest::endsAreOnEveryWay);
        CHECKS.sentence("the one named first is", TermsEdgesTest::firstNamedException);
        CHECKS.sentence("a call that throws changes nothing", TermsEdgesTest::changesNothing);
        CHECKS.sentence("In all calls, illegal argument: a place is not 0 .. 15", TermsEdgesTest::noPlace);
        CHECKS.finish();
    }

    private static void lastCall() {
        last("add", x -> x.add(15, 1), true);
        last("remove", x -> x.remove(15, 0), true);
        last("clear", x -> x.clear(), 16);
        last("group", x -> x.group(15), 0);
        last("members", x -> x.members(15), 16);
        last("rank", x -> x.rank(15), 0);
        last("ranked", x -> x.ranked(0), 0);
        last("reaches", x -> x.reaches(1, 0), true);
        last("distance", x -> x.distance(1, 0), 15);
        last("way", x -> x.way(1, 0, 14), 15);
        last("gate", x -> x.gate(1, 0), 15);
        last("gated", x -> x.gated(1, 2), 15);
        last("places", x -> x.places(1, 0), 1);
        last("arrows", x -> x.arrows(1, 0), 1);
        last("figure", x -> x.figure(5), 16);
        CHECKS.refused("add(15, 15) as the 512th call", IllegalArgumentException.class,
                () -> askedOften().add(15, 15));
        CHECKS.refused("ranked(1) as the 512th call", IndexOutOfBoundsException.class,
                () -> askedOften().ranked(1));
    }

    private static void last(String call, Function<ArcAtlas, Object> asking, Object due) {
        CHECKS.due(call + " as the 512th call", asking.apply(askedOften()), due);
    }

    /** A ring behind 511 calls: 16 that put its arrows, and 495 that change it to and fro and ask. */
    private static ArcAtlas askedOften() {
        ArcAtlas x = Scene.RING.atlas();
        for (int n = 0; n < 99; n++) {
            x.remove(7, 8);
            x.figure(n % 6);
            x.add(7, 8);
            x.arrows(n % 16, 15);
            x.way(1, 0, n % 16);
        }
        return x;
    }

    private static void firstAndLastPlace() {
        ArcAtlas x = new ArcAtlas();
        CHECKS.due("add(0, 15)", x.add(0, 15), true);
        CHECKS.due("add(15, 0)", x.add(15, 0), true);
        CHECKS.due("reaches(0, 15)", x.reaches(0, 15), true);
        CHECKS.due("reaches(15, 0)", x.reaches(15, 0), true);
        CHECKS.due("distance(0, 15)", x.distance(0, 15), 1);
        CHECKS.due("distance(15, 0)", x.distance(15, 0), 1);
        CHECKS.due("way(0, 15, 1)", x.way(0, 15, 1), 15);
        CHECKS.due("way(15, 0, 1)", x.way(15, 0, 1), 0);
        CHECKS.due("group(0)", x.group(0), 0);
        CHECKS.due("group(15)", x.group(15), 0);
        CHECKS.due("members(0)", x.members(0), 2);
        CHECKS.due("members(15)", x.members(15), 2);
        CHECKS.due("rank(0)", x.rank(0), 0);
        CHECKS.due("rank(15)", x.rank(15), 0);
        CHECKS.due("gate(0, 15)", x.gate(0, 15), 0);
        CHECKS.due("gate(15, 0)", x.gate(15, 0), 15);
        CHECKS.due("gated(0, 15)", x.gated(0, 15), 1);
        CHECKS.due("gated(15, 0)", x.gated(15, 0), 1);
        CHECKS.due("arrows(0, 15)", x.arrows(0, 15), 1);
        CHECKS.due("arrows(15, 0)", x.arrows(15, 0), 1);
        CHECKS.due("remove(0, 15)", x.remove(0, 15), true);
        CHECKS.due("places(0, 15)", x.places(0, 15), 0);
        CHECKS.due("places(15, 0)", x.places(15, 0), -1);
        CHECKS.due("remove(15, 0)", x.remove(15, 0), true);
    }

    private static void neverToItself() {
        for (int p = 0; p < 16; p++) {
            int q = p;
            CHECKS.refused("add(p, p), p = " + q, IllegalArgumentException.class, Scene.EMPTY, x -> x.add(q, q));
            CHECKS.refused("add(p, p), p = " + q, IllegalArgumentException.class, Scene.RING, x -> x.add(q, q));
        }
    }

    private static void oneOfEachPair() {
        ArcAtlas x = Checks.atlas(3, 4, 3, 4, 3, 4);
        CHECKS.due("figure(0), one arrow put three times", x.figure(0), 1);
        CHECKS.due("arrows(3, 4), one arrow put three times", x.arrows(3, 4), 1);
        CHECKS.due("remove(3, 4), one arrow put three times", x.remove(3, 4), true);
        CHECKS.due("reaches(3, 4) behind it", x.reaches(3, 4), false);
        CHECKS.due("remove(3, 4) again", x.remove(3, 4), false);
        CHECKS.due("figure(0) behind it", x.figure(0), 0);
    }

    private static void atMostEighty() {
        for (Scene full : new Scene[] {Scene.FULL, Scene.FULL_ROUND, Scene.FULL_ROW}) {
            CHECKS.due("figure(0), " + full.name(), full.atlas().figure(0), 80);
            CHECKS.refused("add(15, 7)", IllegalStateException.class, full, x -> x.add(15, 7));
        }
    }

    private static void waysDoNotGoBack() {
        ArcAtlas x = Scene.ONE.atlas();
        CHECKS.due("reaches(15, 0) over an arrow from 0 to 15", x.reaches(15, 0), false);
        CHECKS.due("distance(15, 0) over an arrow from 0 to 15", x.distance(15, 0), -1);
    }

    private static void wayOfLengthNone() {
        for (Scene scene : Scene.ALL) {
            ArcAtlas x = scene.atlas();
            for (int p = 0; p < 16; p++) {
                String told = " of " + p + " to itself (" + scene.name() + ")";
                CHECKS.due("reaches" + told, x.reaches(p, p), true);
                CHECKS.due("distance" + told, x.distance(p, p), 0);
                CHECKS.due("way" + told, x.way(p, p, 0), p);
            }
        }
    }

    private static void reachesByLongestWay() {
        ArcAtlas x = Scene.RING.atlas();
        for (int p = 0; p < 16; p++) {
            int last = (p + 15) % 16;
            CHECKS.due("reaches(" + p + ", " + last + ") by all places", x.reaches(p, last), true);
        }
        x.remove(7, 8);
        CHECKS.due("reaches(8, 7) by all places", x.reaches(8, 7), true);
        CHECKS.due("reaches(7, 8) without the arrow", x.reaches(7, 8), false);
        CHECKS.due("reaches(0, 15) without the arrow", x.reaches(0, 15), false);
    }

    private static void groupHasAll() {
        // Two rings that share the place 9: all of both reach each other.
        ArcAtlas x = Checks.atlas(9, 2, 2, 9, 9, 13, 13, 11, 11, 9);
        for (int p : new int[] {2, 9, 11, 13}) {
            CHECKS.due("group(" + p + ") of two rings", x.group(p), 2);
            CHECKS.due("members(" + p + ") of two rings", x.members(p), 4);
        }
        ArcAtlas all = Scene.RING.atlas();
        for (int p = 0; p < 16; p++) {
            CHECKS.due("group(" + p + ") in the ring", all.group(p), 0);
            CHECKS.due("members(" + p + ") in the ring", all.members(p), 16);
        }
    }

    private static void groupAlone() {
        // 5 reaches the ring of 1 and 2 and is not reached back; 7 is reached and does not reach back.
        ArcAtlas x = Checks.atlas(5, 1, 1, 2, 2, 1, 2, 7);
        for (int p : new int[] {5, 7, 0, 15}) {
            CHECKS.due("group(" + p + ") alone", x.group(p), p);
            CHECKS.due("members(" + p + ") alone", x.members(p), 1);
        }
        CHECKS.due("figure(1), two of 16 places together", x.figure(1), 15);
    }

    private static void leastPlace() {
        ArcAtlas x = Checks.atlas(15, 14, 14, 15);
        CHECKS.due("group(15) with 14", x.group(15), 14);
        CHECKS.due("group(14) with 15", x.group(14), 14);
        x.add(15, 0);
        x.add(0, 14);
        CHECKS.due("group(15) with 0 too", x.group(15), 0);
        CHECKS.due("group(0)", x.group(0), 0);
        x.remove(0, 14);
        CHECKS.due("group(15) without 0 again", x.group(15), 14);
    }

    private static void leadsByAnyPlace() {
        // From the greatest place of {0, 8} to the greatest one of {1, 9}, neither of which is a name.
        ArcAtlas x = Checks.atlas(0, 8, 8, 0, 1, 9, 9, 1, 9, 8);
        CHECKS.due("rank(1), before 0", x.rank(1), 0);
        CHECKS.due("rank(0), behind 1", x.rank(0), 1);
        CHECKS.due("figure(2)", x.figure(2), 1);
        x.remove(9, 8);
        CHECKS.due("rank(1), not before 0 any more", x.rank(1), 1);
        CHECKS.due("figure(2) without the arrow", x.figure(2), 0);
    }

    private static void orderOfAllGroups() {
        for (Scene scene : Scene.ALL) {
            ArcAtlas x = scene.atlas();
            int groups = x.figure(1);
            int seen = 0;
            for (int k = 0; k < groups; k++) {
                int name = x.ranked(k);
                seen |= 1 << name;
                CHECKS.due("ranked(" + k + ") is a name (" + scene.name() + ")", x.group(name), name);
                CHECKS.due("rank of ranked(" + k + ") (" + scene.name() + ")", x.rank(name), k);
            }
            CHECKS.due("groups in the order (" + scene.name() + ")", Integer.bitCount(seen), groups);
        }
    }

    private static void leastNameOfTheFree() {
        // 2 is free from the first on, but 0 becomes free as soon as 1 stands, and is less.
        ArcAtlas x = Checks.atlas(1, 0);
        CHECKS.due("ranked(0)", x.ranked(0), 1);
        CHECKS.due("ranked(1)", x.ranked(1), 0);
        CHECKS.due("ranked(2)", x.ranked(2), 2);
    }

    private static void allBeforeAreIn() {
        // 0 waits for both 14 and 15, not for one of them.
        ArcAtlas x = Checks.atlas(15, 0, 14, 0);
        CHECKS.due("rank(14)", x.rank(14), 13);
        CHECKS.due("rank(15)", x.rank(15), 14);
        CHECKS.due("rank(0)", x.rank(0), 15);
    }

    private static void notReachedIsNotDependent() {
        ArcAtlas x = Checks.atlas(0, 1, 2, 3, 3, 0);
        CHECKS.due("gated(0, 0), 2 and 3 not reached", x.gated(0, 0), 2);
        CHECKS.due("gated(0, 1), 2 and 3 not reached", x.gated(0, 1), 1);
        CHECKS.due("gated(0, 2), 2 and 3 not reached", x.gated(0, 2), 0);
        CHECKS.due("gated(0, 3), 2 and 3 not reached", x.gated(0, 3), 0);
    }

    private static void endsAreOnEveryWay() {
        // Two ways from 0 to 3: both its ends are on each of them, the places between are not.
        ArcAtlas x = Checks.atlas(0, 1, 0, 2, 1, 3, 2, 3);
        CHECKS.due("gate(0, 3)", x.gate(0, 3), 0);
        CHECKS.due("gated(0, 0)", x.gated(0, 0), 4);
        CHECKS.due("gated(0, 1)", x.gated(0, 1), 1);
        CHECKS.due("gated(0, 2)", x.gated(0, 2), 1);
        CHECKS.due("gated(0, 3)", x.gated(0, 3), 1);
    }

    private static void firstNamedException() {
        CHECKS.refused("add(4, 4), full", IllegalArgumentException.class, Scene.FULL, x -> x.add(4, 4));
        CHECKS.refused("add(16, 4), full", IllegalArgumentException.class, Scene.FULL, x -> x.add(16, 4));
        CHECKS.refused("add(15, -1), full", IllegalArgumentException.class, Scene.FULL, x -> x.add(15, -1));
        CHECKS.refused("way(16, 0, -1)", IllegalArgumentException.class, Scene.ONE, x -> x.way(16, 0, -1));
        CHECKS.refused("way(0, -1, 2)", IllegalArgumentException.class, Scene.ONE, x -> x.way(0, -1, 2));
        CHECKS.refused("way(15, 0, -1)", NoSuchElementException.class, Scene.ONE, x -> x.way(15, 0, -1));
        CHECKS.refused("way(15, 0, 16)", NoSuchElementException.class, Scene.ONE, x -> x.way(15, 0, 16));
        CHECKS.refused("gate(15, 16)", IllegalArgumentException.class, Scene.ONE, x -> x.gate(15, 16));
    }

    private static void changesNothing() {
        for (Scene scene : Scene.ALL) {
            CHECKS.same("what is answered behind many refused calls (" + scene.name() + ")",
                    scene.portraitBehind(x -> refuseMuch(x)), scene.portrait());
        }
        for (Scene full : new Scene[] {Scene.FULL, Scene.FULL_ROUND, Scene.FULL_ROW}) {
            CHECKS.refused("add(15, 7)", IllegalStateException.class, full, x -> x.add(15, 7));
        }
        CHECKS.refused("way(15, 0, 0)", NoSuchElementException.class, Scene.ONE, x -> x.way(15, 0, 0));
        CHECKS.refused("gate(15, 0)", NoSuchElementException.class, Scene.ONE, x -> x.gate(15, 0));
    }

    private static void refuseMuch(ArcAtlas x) {
        CHECKS.refused("add(3, 3)", IllegalArgumentException.class, () -> x.add(3, 3));
        CHECKS.refused("add(0, 16)", IllegalArgumentException.class, () -> x.add(0, 16));
        CHECKS.refused("remove(-1, 1)", IllegalArgumentException.class, () -> x.remove(-1, 1));
        CHECKS.refused("group(16)", IllegalArgumentException.class, () -> x.group(16));
        CHECKS.refused("members(-1)", IllegalArgumentException.class, () -> x.members(-1));
        CHECKS.refused("rank(16)", IllegalArgumentException.class, () -> x.rank(16));
        CHECKS.refused("ranked(-1)", IndexOutOfBoundsException.class, () -> x.ranked(-1));
        CHECKS.refused("ranked(16)", IndexOutOfBoundsException.class, () -> x.ranked(16));
        CHECKS.refused("reaches(0, -1)", IllegalArgumentException.class, () -> x.reaches(0, -1));
        CHECKS.refused("distance(16, 0)", IllegalArgumentException.class, () -> x.distance(16, 0));
        CHECKS.refused("way(0, 16, 0)", IllegalArgumentException.class, () -> x.way(0, 16, 0));
        CHECKS.refused("way(9, 9, 1)", IndexOutOfBoundsException.class, () -> x.way(9, 9, 1));
        CHECKS.refused("gate(-1, 0)", IllegalArgumentException.class, () -> x.gate(-1, 0));
        CHECKS.refused("gated(0, 16)", IllegalArgumentException.class, () -> x.gated(0, 16));
        CHECKS.refused("places(-1, -1)", IllegalArgumentException.class, () -> x.places(-1, -1));
        CHECKS.refused("arrows(16, 16)", IllegalArgumentException.class, () -> x.arrows(16, 16));
        CHECKS.refused("figure(6)", IllegalArgumentException.class, () -> x.figure(6));
    }

    private static void noPlace() {
        for (Scene scene : Scene.ALL) {
            for (int p : NO_PLACES) {
                refused("group(" + p + ")", scene, x -> x.group(p));
                refused("members(" + p + ")", scene, x -> x.members(p));
                refused("rank(" + p + ")", scene, x -> x.rank(p));
                refusedInPairs("add", p, scene, (x, u, v) -> x.add(u, v));
                refusedInPairs("remove", p, scene, (x, u, v) -> x.remove(u, v));
                refusedInPairs("reaches", p, scene, (x, u, v) -> x.reaches(u, v));
                refusedInPairs("distance", p, scene, (x, u, v) -> x.distance(u, v));
                refusedInPairs("way, place 0,", p, scene, (x, u, v) -> x.way(u, v, 0));
                refusedInPairs("gate", p, scene, (x, u, v) -> x.gate(u, v));
                refusedInPairs("gated", p, scene, (x, u, v) -> x.gated(u, v));
                refusedInPairs("places", p, scene, (x, u, v) -> x.places(u, v));
                refusedInPairs("arrows", p, scene, (x, u, v) -> x.arrows(u, v));
            }
        }
    }

    private static void refusedInPairs(String call, int p, Scene scene, Scene.PairCall asking) {
        refused(call + " (" + p + ", 0)", scene, x -> asking.on(x, p, 0));
        refused(call + " (15, " + p + ")", scene, x -> asking.on(x, 15, p));
        refused(call + " (" + p + ", " + p + ")", scene, x -> asking.on(x, p, p));
    }

    private static void refused(String call, Scene scene, Consumer<ArcAtlas> asking) {
        CHECKS.refused(call, IllegalArgumentException.class, scene, asking);
    }
}
