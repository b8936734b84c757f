/** Promises 36 and 37: image, restore. */
public final class ImageTest {
    private static final String ONE = "person ann bone bone 3;person bob bone bone 2;maid may 2;street ann bob;"
        + "spare 2;year 3;july 2;";
    private static final String TWO = "person cid glass glass 1;person dot glass glass 2;person eve glass glass 1;"
        + "done eve cid;july 0;";

    public static void main(String[] args) {
        places();
        all();
        toldStays();
        apart();
        Probe.finish();
    }

    private static void places() {
        HookedCity x = new HookedCity();
        int[] none = {-1, 2, Integer.MIN_VALUE, Integer.MAX_VALUE};
        for (int k : none) {
            Probe.due("image " + k, x.image(k), false);
            Probe.due("restore " + k, x.restore(k), false);
        }
        Probe.due("nothing is kept", x.restore(0), false);
        Probe.due("nothing is kept", x.restore(1), false);
        Probe.due("image", x.image(1), true);
        Probe.due("only there", x.restore(0), false);
        Probe.due("restore", x.restore(1), true);
    }

    private static void all() {
        HookedCity x = Probe.of(ONE);
        x.button(0, 0, 1);
        x.days(1);
        x.mend(1);
        x.button(0, 1, 0);
        Probe.sentence(x, "with bob and number=0");
        String first = Probe.all(x);
        Probe.due("image", x.image(0), true);
        Probe.due("an image leaves all", Probe.all(x).equals(first), true);
        x.days(9);
        Probe.city(x, TWO);
        String second = Probe.all(x);
        Probe.due("image", x.image(1), true);
        x.days(3);
        Probe.due("restore a CITY", x.restore(0), true);
        Probe.due("all is as kept", Probe.all(x).equals(first), true);
        Probe.due("the NAMES too", Probe.card(x, 1).equals("bob in ann"), true);
        Probe.due("and the SENTENCE", x.said(0), 0);
        Probe.due("nothing can be undone", x.undo(), Probe.NONE);
        Probe.due("acts go on", x.loose(0, 0), 0);
        Probe.due("they can", x.undo(), 0);
        Probe.due("restore the other one", x.restore(1), true);
        Probe.due("all is as kept", Probe.all(x).equals(second), true);
        Probe.due("no SENTENCE", x.said(Probe.NONE), Probe.NONE);
        Probe.due("NAMES", Probe.card(x, 2).equals("eve in cid bare"), true);
        Probe.due("a BOOK with its NAMES", Probe.book(x, "mend dot;", 0), 0);
        Probe.due("not with others", Probe.book(x, "mend bob;", 0), -2 - 5);
    }

    private static void toldStays() {
        HookedCity x = Probe.of(ONE);
        x.image(0);
        Probe.due("match", x.match(), 2);
        Probe.due("way", x.way(1, 0), 1);
        Probe.due("card", x.card(1), 13);
        Probe.due("book", Probe.book(x, "mend ann;", 0), 0);
        Probe.tape(x, 0, 1);
        Probe.due("slips", x.slips(), 2);
        Probe.due("a FAULT", Probe.sentence(x, "with eve"), -1 - 5);
        Probe.tape(x, "open");
        x.days(1);
        Probe.due("a restore that is none", x.restore(1), false);
        Probe.due("leaves the acts", x.undo(), 0);
        Probe.due("and the match", x.takes(), 1);
        Probe.due("restore", x.restore(0), true);
        Probe.due("takes", x.takes(), Probe.NONE);
        Probe.due("matched", x.matched(1), 0);
        Probe.due("wayAt", x.wayAt(0), 1);
        Probe.due("byteAt", x.byteAt(0), 'b');
        Probe.due("told", x.told(0), 21);
        Probe.due("slipLeast", x.slipLeast(), 1);
        Probe.due("turn", x.turn(), 0);
        Probe.due("fault", x.fault(), 3);
        Probe.due("the tape stays", x.sentence(), 1);
    }

    /** What is kept does not change with what is so. */
    private static void apart() {
        HookedCity x = Probe.of(ONE);
        Probe.sentence(x, "open");
        x.image(0);
        String first = Probe.all(x);
        for (int i = 0; i < 3; i++) {
            x.button(0, 0, 1);
            x.days(4);
            Probe.sentence(x, "not bare or ring and torn");
            Probe.city(x, TWO);
            Probe.sentence(x, "with eve");
            x.restore(0);
            Probe.due("as kept", Probe.all(x).equals(first), true);
        }
        x.days(1);
        x.image(0);
        x.days(1);
        x.restore(0);
        Probe.due("kept anew", x.now(0), 1);
    }
}
