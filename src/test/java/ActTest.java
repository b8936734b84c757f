/** Promises 8 to 13: now, button, loose, mend, days, undo. */
public final class ActTest {
    private static final String FOUR = "person ann bone bone 2;person bob bone bone 1;person cid bone pearl 3;"
        + "person dot pearl bone 4;maid may 2;maid sue 1;street ann bob;street bob cid;street cid dot;street ann cid;";

    public static void main(String[] args) {
        buttoning();
        loosing();
        mending();
        wearing();
        lastDay();
        telling();
        undoing();
        undoingEach();
        Probe.finish();
    }

    private static void none(String what, int... got) {
        for (int one : got) {
            Probe.due(what, one, Probe.NONE);
        }
    }

    private static void buttoning() {
        HookedCity x = Probe.of(FOUR);
        none("no such ones", x.button(-1, 0, 1), x.button(2, 0, 1), x.button(0, -1, 1), x.button(0, 4, 1),
            x.button(0, 0, -1), x.button(0, 0, 4));
        Probe.due("alike", x.button(0, 0, 0), 2);
        Probe.due("no street", x.button(0, 3, 0), 3);
        Probe.due("alike comes ahead of the street", x.button(0, 3, 3), 2);
        Probe.due("unlike KINDS", x.button(0, 2, 1), 4);
        Probe.due("done", x.button(0, 0, 1), 0);
        Probe.due("in his loop", x.person(0, 4), 1);
        Probe.due("his button", x.person(1, 5), 0);
        Probe.due("KINDS ahead of not OPEN", x.button(0, 2, 1), 4);
        Probe.due("not OPEN", x.button(0, 0, 2), 5);
        Probe.due("not OPEN ahead of not BARE", x.button(0, 0, 1), 5);
        Probe.due("a RING", x.button(0, 1, 0), 0);
        Probe.due("as much as her HOOKS", x.button(0, 2, 2), 1);
        Probe.due("another MAID", x.button(1, 2, 2), 2);
        Probe.due("how often", x.now(5), 2);
        x = Probe.of(FOUR + "done dot bob;");
        Probe.due("not BARE", x.button(0, 0, 1), 6);
        x.days(1);
        Probe.due("PERISHED", x.now(3), 2);
        Probe.due("PERISHED", x.button(0, 0, 1), 7);
        Probe.due("nothing was done", x.maid(0, 1), 0);
        Probe.due("'done' was never buttoned", x.now(5), 0);
    }

    private static void loosing() {
        HookedCity x = Probe.of(FOUR + "done ann bob;done bob cid;");
        none("no such ones", x.loose(-1, 0), x.loose(2, 0), x.loose(0, -1), x.loose(0, 4));
        Probe.due("OPEN", x.loose(1, 3), 2);
        Probe.due("loosed", x.loose(1, 0), 0);
        Probe.due("OPEN now", x.person(0, 4), Probe.NONE);
        Probe.due("BARE now", x.person(1, 5), Probe.NONE);
        Probe.due("the HOOK is used up", x.loose(1, 0), 1);
        Probe.due("that comes first", x.loose(1, 1), 1);
        Probe.due("another MAID", x.loose(0, 0), 2);
        Probe.due("another MAID", x.loose(0, 1), 0);
        Probe.due("how much she did", x.maid(0, 1), 1);
        Probe.due("that is no buttoning", x.now(5), 0);
    }

    private static void mending() {
        HookedCity x = Probe.of(FOUR + "spare 2;year 2;july 2;done ann bob;done bob ann;done dot cid;");
        none("no such one", x.mend(-1), x.mend(4));
        Probe.due("all its STRENGTH", x.mend(0), 1);
        x.days(2);
        Probe.due("left", x.person(2, 3), 1);
        Probe.due("two PERISHED", x.now(3), 3);
        Probe.due("mended", x.mend(2), 0);
        Probe.due("all of it", x.person(2, 3), 3);
        Probe.due("what is in it stays", x.person(2, 5), 3);
        Probe.due("a spare less", x.now(4), 1);
        Probe.due("what has PERISHED too", x.mend(1), 0);
        Probe.due("whole again", x.now(3), 1);
        Probe.due("but BARE", x.person(1, 5), Probe.NONE);
        Probe.due("no spare", x.mend(0), 2);
        Probe.due("all STRENGTH comes first", x.mend(1), 1);
        Probe.due("no HOOK is used", x.maid(0, 1) + x.maid(1, 1), 0);
        Probe.due("how often one PERISHED", x.now(6), 2);
    }

    private static void wearing() {
        HookedCity x = Probe.of(FOUR + "year 5;july 2;done ann cid;done cid dot;");
        int[] left = {3, 2, 1, 1, 1, 1, 0};
        for (int day = 0; day < left.length; day++) {
            Probe.due("DAY", x.now(0), day);
            Probe.due("left on DAY " + day, x.person(2, 3), left[day]);
            Probe.due("wears on DAY " + day, x.now(7), day % 5 < 2 ? 1 : 0);
            Probe.due("one DAY", x.days(day < 6 ? 1 : 0), day < 6 ? 1 : Probe.NONE);
        }
        Probe.due("one PERISHED", x.now(6), 1);
        Probe.due("the other one did not", x.person(3, 3), 1);
        Probe.due("his button is out", x.person(0, 4), Probe.NONE);
        Probe.due("his is not", x.person(2, 4), 3);
        x = Probe.of(FOUR + "july 0;done ann bob;");
        x.days(60);
        Probe.due("no july, no wear", x.person(1, 3), 1);
        x = Probe.of(FOUR + "year 2;july 60;done ann cid;");
        x.days(3);
        Probe.due("july is longer than the year", x.now(3), 4);
        none("not as told", x.days(0), x.days(61), x.days(-1), x.days(Integer.MIN_VALUE));
        Probe.due("nothing went by", x.now(0), 3);
    }

    private static void lastDay() {
        HookedCity x = Probe.of(FOUR + "year 5;july 5;spare 1;done ann bob;");
        for (int i = 0; i < 6; i++) {
            Probe.due("sixty", x.days(60), 60);
        }
        Probe.due("wears", x.now(7), 1);
        Probe.due("the last forty", x.days(60), 40);
        Probe.due("all are over", x.now(0), 400);
        Probe.due("none more", x.days(1), 0);
        Probe.due("none more", x.drawn(1, 1), 0);
        Probe.due("nothing wears any more", x.now(7), 0);
        Probe.due("acts go on", x.mend(1), 0);
        Probe.due("acts go on", x.button(0, 0, 1), 0);
        Probe.due("it will not PERISH", x.lasts(1), Probe.NONE);
        Probe.due("nine acts, eight kept", x.undo(), 7);
        Probe.due("the mending", x.undo(), 6);
        Probe.due("the forty DAYS, none that were 0", x.undo(), 5);
        Probe.due("DAY", x.now(0), 360);
    }

    private static void telling() {
        HookedCity x = Probe.of(FOUR + "spare 5;done ann bob;done dot ann;");
        int[] due = {Probe.NONE, 0, 2 + 4, 4 + 8, 0, 5, 0, 0, 1, Probe.NONE};
        for (int what = -1; what <= 8; what++) {
            Probe.due("now " + what, x.now(what), due[what + 1]);
        }
        x.days(1);
        int[] then = {1, 1 + 2 + 4, 2 + 4 + 8, 2, 5, 0, 1, 0};
        for (int what = 0; what < 8; what++) {
            Probe.due("then " + what, x.now(what), then[what]);
        }
    }

    private static void undoing() {
        HookedCity x = Probe.of(FOUR);
        Probe.due("nothing to undo", x.undo(), Probe.NONE);
        for (int i = 0; i < 10; i++) {
            x.days(1);
        }
        for (int i = 7; i >= 0; i--) {
            Probe.due("more that can be", x.undo(), i);
            Probe.due("DAY", x.now(0), 2 + i);
        }
        Probe.due("eight are kept", x.undo(), Probe.NONE);
        Probe.due("it stays", x.now(0), 2);
        x.days(1);
        Probe.due("acts behind an undo", x.undo(), 0);
        Probe.due("refused acts", x.button(0, 0, 0) + x.loose(0, 0) + x.mend(0) + x.days(0), 2 + 2 + 1 - 1);
        Probe.due("are not undone", x.undo(), Probe.NONE);
    }

    private static void undoingEach() {
        HookedCity x = Probe.of(FOUR + "spare 1;year 2;july 1;done ann bob;done bob cid;");
        String[] was = new String[7];
        was[0] = Probe.all(x);
        x.loose(0, 1);
        was[1] = Probe.all(x);
        x.button(0, 1, 0);
        was[2] = Probe.all(x);
        x.days(5);
        was[3] = Probe.all(x);
        x.mend(1);
        was[4] = Probe.all(x);
        x.drawn(9, 77);
        was[5] = Probe.all(x);
        Probe.due("a BOOK that is judged", Probe.book(x, "day 7;", 0), Probe.NONE);
        Probe.due("a BOOK that is lived", Probe.book(x, "day 3;mend ann;mend ann;", 1) >= 0, true);
        for (int i = 5; i >= 0; i--) {
            Probe.due("more that can be", x.undo(), i);
            Probe.due("as ahead of act " + i, Probe.all(x).equals(was[i]), true);
        }
        Probe.due("none", x.undo(), Probe.NONE);
    }
}
