/** The largest CITY at every edge, and one object that is used for one CITY behind another. */
public final class FullTest {
    private static final int NINE = 9;

    public static void main(String[] args) {
        ringOfNine();
        rowOfNine();
        anew();
        loneEdges();
        Probe.finish();
    }

    private static String name(int p) {
        return "z" + (char) ('a' + p);
    }

    private static String persons(int strength) {
        StringBuilder text = new StringBuilder();
        for (int p = 0; p < NINE; p++) {
            text.append("person ").append(name(p)).append(" bone bone ").append(strength).append(';');
        }
        return text.toString();
    }

    private static void ringOfNine() {
        StringBuilder text = new StringBuilder(persons(1)).append("maid ma 9;maid mb 9;maid mc 9;");
        for (int p = 0; p < NINE; p++) {
            text.append("street ").append(name(p)).append(' ').append(name((p + 1) % NINE)).append(';');
            text.append("done ").append(name(p)).append(' ').append(name((p + 1) % NINE)).append(';');
        }
        HookedCity x = Probe.of(text.toString());
        for (int p = 0; p < NINE; p++) {
            Probe.due("CHAIN", x.person(p, 6), 8);
            Probe.due("RING", x.person(p, 7), 1);
            Probe.due("WITH", x.with(p), 511);
            Probe.due("LASTS", x.lasts(p), 1);
        }
        Probe.due("QUIET", x.quiet(), 511);
        Probe.due("parts", x.parts(), 1);
        Probe.due("match", x.match(), NINE);
        // the first by PERSON: za in zb, zb in za, and so on, but nine are odd: the ring it must be
        Probe.due("matched", x.matched(0), 1);
        Probe.due("no such one", x.matched(NINE), Probe.NONE);
        Probe.due("takes", x.takes(), 0);
        Probe.due("sentence", Probe.sentence(x, "ring and chain=8 and with zi"), 3);
        Probe.due("said of all", x.said(Probe.NONE), NINE);
        Probe.due("the last", x.said(8), 8);
        Probe.due("none such", x.said(9), Probe.NONE);
        Probe.due("loose", x.loose(2, 0), 0);
        for (int p = 0; p < NINE; p++) {
            Probe.due("CHAIN", x.person(p, 6), p == 0 ? 0 : NINE - p);
            Probe.due("WITH", x.with(p), 511);
        }
        Probe.due("QUIET", x.quiet(), 0);
        x.days(1);
        Probe.due("all but zb's have PERISHED", x.now(3), 511 - 2);
        Probe.due("eight", x.now(6), 8);
        Probe.due("all OPEN", x.now(1), 511);
        Probe.due("parts", x.parts(), NINE);
        Probe.due("no such ones", x.button(0, 8, 9), Probe.NONE);
        Probe.due("no such ones", x.button(3, 8, 0), Probe.NONE);
        Probe.due("the last MAID", x.button(2, 0, 1), 0);
        Probe.due("match", x.match(), 1);
        Probe.due("slips", slips(x, 8, 255), 10);
    }

    private static int slips(HookedCity x, int... bytes) {
        Probe.tape(x, bytes);
        return x.slips();
    }

    private static void rowOfNine() {
        StringBuilder text = new StringBuilder(persons(9));
        for (int p = 0; p + 1 < NINE; p++) {
            text.append("street ").append(name(p)).append(' ').append(name(p + 1)).append(';');
        }
        HookedCity x = Probe.of(text.append("maid ma 1;").toString());
        Probe.due("a row of nine", x.match(), 8);
        int[] due = {1, 0, 3, 2, 5, 4, 7, 6, -1};
        for (int p = 0; p < NINE; p++) {
            Probe.due("matched " + p, x.matched(p), due[p]);
        }
        Probe.due("one a DAY", x.takes(), 8);
        Probe.due("way", x.way(0, 8), 8);
        Probe.due("wayAt", x.wayAt(8), 8);
        Probe.due("wayAt", x.wayAt(9), Probe.NONE);
        Probe.due("nobody beyond", x.way(0, 9), Probe.NONE);
        Probe.due("nobody beyond", x.way(9, 0), Probe.NONE);
    }

    private static void anew() {
        HookedCity x = Probe.of("person ann bone bone 3;person bob bone bone 3;maid may 2;street ann bob;spare 3;"
            + "year 2;july 2;");
        x.button(0, 0, 1);
        x.button(0, 1, 0);
        x.days(3);
        x.button(0, 0, 1);
        x.match();
        String[] empty = {"", " ", "person ann bone bone 3;person bob bone bone 3;maid may 2;"};
        for (String text : empty) {
            Probe.city(x, text);
            String fresh = Probe.all(Probe.of(text));
            Probe.due("a new CITY is as on a new object", Probe.all(x).equals(fresh), true);
            Probe.due("no act of another CITY is undone", x.undo(), Probe.NONE);
        }
        Probe.due("what another CITY had once", Probe.city(x, "spare 0;year 2;july 0;"), 3);
        Probe.due("a NAME of another CITY", Probe.city(x, "street ann bob;"), -1 - 7);
        Probe.due("it is not told", x.fault(), 3);
        Probe.due("match", x.match(), 0);
        Probe.due("told anew", x.matched(0), Probe.NONE);
        for (int i = 0; i < 3; i++) {
            Probe.due("one SENTENCE behind another", Probe.sentence(x, i == 1 ? "bare" : "open or ring"), i == 1 ? 1 : 2);
        }
    }

    private static void loneEdges() {
        HookedCity x = Probe.of("person ann bone bone 1;person bob bone bone 1;maid may 3;maid sue 1;street ann bob;"
            + "done bob ann;done ann bob;");
        for (int what = -1; what <= 4; what++) {
            Probe.due("told ahead of any", x.told(what), Probe.NONE);
        }
        Probe.due("odds by one seed", x.odds(0, 1, 0) != Probe.NONE, true);
        Probe.sentence(x, "with bob and number>0 or near ann and loop=1");
        x.image(0);
        Probe.due("looses", Probe.book(x, "may looses bob;may buttons bob ann;sue looses bob;may looses bob;", 1), 3);
        Probe.due("why", x.told(0), 12);
        Probe.due("OPEN", x.told(3), 2);
        Probe.due("nothing is loosed twice", x.person(0, 5), Probe.NONE);
        Probe.city(x, "person eve bone bone 9;maid kit 1;");
        Probe.sentence(x, "number<9 and loop>3");
        Probe.due("of eve", x.said(0), 0);
        x.restore(0);
        Probe.due("with bob", x.said(Probe.NONE), 1);
        Probe.due("bob", x.said(0), 1);
        Probe.due("the MAIDS' NAMES", Probe.book(x, "sue looses bob;may looses ann;", 1), Probe.NONE);
        Probe.due("no others", Probe.book(x, "kit looses ann;", 1), -2);
        Probe.due("not told", x.fault(), 3);
        x.restore(0);
        x.days(1);
        Probe.due("ann's loop has PERISHED too", x.now(3), 3);
        Probe.due("torn", Probe.sentence(x, "torn"), 1);
        Probe.due("ann first", x.said(0), 0);
    }
}
