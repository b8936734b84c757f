/** Promises 14 to 16 and 25 to 29: with, parts, quiet, lasts, near, could, card, byteAt. */
public final class DoneUpTest {
    private static final String SIX = "person ann bone bone 2;person bob bone bone 1;person cid bone bone 3;"
        + "person dot bone bone 4;person eve bone bone 5;person abcdefg bone bone 9;maid may 9;";

    public static void main(String[] args) {
        together();
        quietOnes();
        lasting();
        nearAndCould();
        cards();
        Probe.finish();
    }

    private static void together() {
        HookedCity x = Probe.of(SIX + "done cid ann;done ann eve;done bob dot;done dot bob;");
        int[] due = {Probe.NONE, 21, 10, 21, 10, 21, 32, Probe.NONE};
        for (int p = -1; p <= 6; p++) {
            Probe.due("with " + p, x.with(p), due[p + 1]);
        }
        Probe.due("parts", x.parts(), 3);
        x.loose(0, 1);
        Probe.due("one of two is enough", x.with(1), 10);
        x.loose(0, 3);
        Probe.due("none is not", x.with(1), 2);
        Probe.due("parts", x.parts(), 4);
        Probe.due("no parts", new HookedCity().parts(), 0);
        Probe.due("each alone", Probe.of(SIX).parts(), 6);
    }

    private static void quietOnes() {
        HookedCity x = Probe.of(SIX + "done cid ann;done ann eve;done bob dot;done dot bob;");
        Probe.due("a RING of two", x.quiet(), 10);
        x = Probe.of(SIX + "done cid ann;done ann eve;done eve cid;done bob dot;");
        Probe.due("a RING of three", x.quiet(), 21);
        x.days(1);
        Probe.due("a loop PERISHED elsewhere", x.quiet(), 21);
        x.loose(0, 4);
        Probe.due("the RING is open", x.quiet(), 0);
        Probe.due("nobody", new HookedCity().quiet(), 0);
    }

    private static void lasting() {
        HookedCity x = Probe.of(SIX + "year 10;july 2;done cid ann;done ann eve;done dot bob;");
        // ann's loop has 2: DAYS 0 and 1; bob's has 1: DAY 0; eve's has 5: DAYS 0, 1, 10, 11, 20
        int[] due = {Probe.NONE, 2, 1, Probe.NONE, Probe.NONE, 21, Probe.NONE, Probe.NONE};
        for (int p = -1; p <= 6; p++) {
            Probe.due("lasts " + p, x.lasts(p), due[p + 1]);
        }
        x.days(5);
        Probe.due("from now on", x.lasts(4), 16);
        Probe.due("PERISHED is BARE", x.lasts(1), Probe.NONE);
        x = Probe.of(SIX + "july 0;done cid ann;");
        Probe.due("never", x.lasts(0), Probe.NONE);
        x = Probe.of(SIX + "year 57;july 1;done ann abcdefg;done bob eve;");
        // DAYS 0, 57, .. 399: the eighth and last wears on DAY 399
        Probe.due("a ninth is not by DAY 400", x.lasts(5), Probe.NONE);
        Probe.due("the fifth is on DAY 228", x.lasts(4), 229);
        x = Probe.of(SIX + "person hal bone bone 8;year 57;july 1;done ann hal;");
        Probe.due("the eighth is by DAY 400", x.lasts(6), 400);
        for (int i = 0; i < 6; i++) {
            x.days(60);
        }
        x.days(39);
        Probe.due("the last DAY", x.lasts(6), 1);
        x.days(1);
        Probe.due("so it was", x.now(3), 64);
    }

    private static void nearAndCould() {
        HookedCity x = Probe.of("person ann bone pearl 2;person bob bone bone 1;person cid pearl bone 3;"
            + "person dot pearl bone 1;person eve pearl pearl 1;street ann cid;street ann dot;street eve ann;"
            + "street ann bob;street bob cid;done eve dot;");
        int[] near = {Probe.NONE, 30, 5, 3, 1, 1, Probe.NONE};
        for (int p = -1; p <= 5; p++) {
            Probe.due("near " + p, x.near(p), near[p + 1]);
        }
        int[] could = {Probe.NONE, 4 + 16, 1, 1 + 2, 1, 0, Probe.NONE};
        for (int p = -1; p <= 5; p++) {
            Probe.due("could " + p, x.could(p), could[p + 1]);
        }
        x.days(1);
        Probe.due("dot's loop has PERISHED", x.could(0), 4 + 16);
        x = Probe.of("person ann bone bone 2;person bob bone bone 1;maid may 1;street ann bob;");
        Probe.due("could", x.could(0), 2);
        Probe.due("button", x.button(0, 0, 1), 0);
        Probe.due("he is not OPEN", x.could(0), 0);
        Probe.due("no HOOKS left do not count", x.could(1), 1);
    }

    private static void card(HookedCity x, int p, String due) {
        String got = Probe.card(x, p);
        Probe.due("card " + p + " " + got, got.equals(due), true);
    }

    private static void cards() {
        HookedCity x = Probe.of(SIX + "done abcdefg ann;done ann bob;done bob abcdefg;");
        Probe.due("ahead of any", x.byteAt(0), Probe.NONE);
        card(x, 0, "ann in bob");
        card(x, 1, "bob in abcdefg");
        card(x, 2, "cid open bare");
        card(x, 5, "abcdefg in ann");
        Probe.due("no such one", x.card(-1), Probe.NONE);
        Probe.due("no such one", x.card(6), Probe.NONE);
        Probe.due("the latest stays", x.byteAt(13), 'n');
        Probe.due("below 0", x.byteAt(-1), Probe.NONE);
        x.days(1);
        card(x, 0, "ann open");
        card(x, 1, "bob in abcdefg torn");
        x.loose(0, 1);
        card(x, 1, "bob open torn");
        card(x, 5, "abcdefg in ann bare");
    }
}
