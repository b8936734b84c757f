/** Promises 17 to 19: match, matched, takes. */
public final class MatchTest {
    private static final String FOUR = "person ann bone bone 1;person bob bone bone 2;person cid bone bone 3;"
        + "person dot bone bone 4;";

    public static void main(String[] args) {
        first();
        noneIsLast();
        kindsAndLoops();
        taking();
        stays();
        Probe.finish();
    }

    private static void matched(HookedCity x, int most, int... mates) {
        Probe.due("match", x.match(), most);
        for (int p = 0; p < mates.length; p++) {
            Probe.due("matched " + p, x.matched(p), mates[p]);
        }
        Probe.due("no such one", x.matched(mates.length), Probe.NONE);
        Probe.due("no such one", x.matched(-1), Probe.NONE);
        Probe.due("no such one", x.matched(Integer.MAX_VALUE), Probe.NONE);
    }

    private static void first() {
        HookedCity x = new HookedCity();
        Probe.due("ahead of any", x.matched(0), Probe.NONE);
        Probe.due("ahead of any", x.takes(), Probe.NONE);
        matched(x, 0);
        x = Probe.of(FOUR + "street ann bob;street ann cid;street ann dot;street bob cid;street bob dot;street cid dot;");
        matched(x, 4, 1, 0, 3, 2);
        x = Probe.of(FOUR + "street ann dot;street dot cid;street cid bob;");
        matched(x, 4, 3, 2, 1, 0);
        // the least other one of ann's would leave one out
        x = Probe.of(FOUR + "street ann bob;street ann dot;street bob cid;");
        matched(x, 4, 3, 2, 1, 0);
    }

    private static void noneIsLast() {
        HookedCity x = Probe.of(FOUR + "street dot ann;street dot bob;street dot cid;");
        matched(x, 2, 3, -1, -1, 0);
        x = Probe.of(FOUR + "street bob cid;");
        matched(x, 2, -1, 2, 1, -1);
        x = Probe.of(FOUR);
        matched(x, 0, -1, -1, -1, -1);
    }

    private static void kindsAndLoops() {
        HookedCity x = Probe.of("person ann pearl bone 1;person bob bone glass 1;person cid bone brass 1;"
            + "person dot glass pearl 1;maid may 1;street ann bob;street ann cid;street bob dot;street dot ann;"
            + "done ann bob;");
        matched(x, 3, 1, 3, -1, 0);
        Probe.due("one a DAY", x.takes(), 2);
        x.days(1);
        Probe.due("bob's loop has PERISHED", x.now(3), 2);
        matched(x, 3, 2, 3, -1, 0);
        x = Probe.of(FOUR + "street ann bob;done bob ann;maid may 1;");
        x.days(1);
        matched(x, 1, 1, -1, -1, -1);
    }

    private static void taking() {
        String ring = "street ann bob;street bob cid;street cid ann;";
        HookedCity x = Probe.of(FOUR + ring + "maid may 1;maid sue 1;done ann cid;done dot bob;done bob ann;");
        matched(x, 3, 1, 2, 0, -1);
        // ann and bob are loosed and buttoned, cid is buttoned, dot is loosed: six
        Probe.due("two a DAY", x.takes(), 3);
        x.loose(0, 0);
        Probe.due("the DAY of now counts whole", x.takes(), 3);
        x.loose(1, 1);
        Probe.due("four are left", x.takes(), 2);
        x.days(1);
        Probe.due("a BOOK", Probe.book(x, "may buttons ann bob;", 1), 0);
        Probe.due("dot's button is in that loop", x.told(0), 6);
        x.loose(0, 3);
        x.button(1, 0, 1);
        Probe.due("two are left", x.takes(), 1);
        Probe.due("back", x.undo(), 5);
        Probe.due("three are left", x.takes(), 2);
        x = Probe.of(FOUR + ring);
        Probe.due("match", x.match(), 3);
        Probe.due("no MAIDS", x.takes(), Probe.NONE);
        x = Probe.of(FOUR + "street ann bob;done ann bob;done bob ann;");
        Probe.due("match", x.match(), 2);
        Probe.due("no MAIDS and nothing to be done", x.takes(), 0);
    }

    private static void stays() {
        HookedCity x = Probe.of(FOUR + "street ann bob;maid may 3;");
        x.image(0);
        Probe.due("match", x.match(), 2);
        Probe.due("takes", x.takes(), 1);
        Probe.due("a FAULT", Probe.city(x, ";"), -1);
        Probe.due("is no other CITY", x.takes(), 1);
        Probe.due("another CITY", Probe.city(x, FOUR + "maid may 3;"), 5);
        Probe.due("takes", x.takes(), Probe.NONE);
        Probe.due("what was told stays", x.matched(1), 0);
        Probe.due("match", x.match(), 0);
        Probe.due("takes", x.takes(), 0);
        Probe.due("told anew", x.matched(1), Probe.NONE);
        Probe.due("restore", x.restore(0), true);
        Probe.due("as ahead of any match", x.takes(), Probe.NONE);
        Probe.due("match", x.match(), 2);
        Probe.due("restore", x.restore(0), true);
        Probe.due("what was told stays", x.matched(0), 1);
        Probe.due("as ahead of any match", x.takes(), Probe.NONE);
    }
}
