/** Promises 20 to 24: slips, slipLeast, turn, way, wayAt. */
public final class SlipTest {
    public static void main(String[] args) {
        slipping();
        notAsTold();
        turning();
        ways();
        Probe.finish();
    }

    private static HookedCity row(int persons) {
        StringBuilder text = new StringBuilder();
        for (int p = 0; p < persons; p++) {
            text.append("person p").append((char) ('a' + p)).append(" bone bone 1;");
        }
        return Probe.of(text.toString());
    }

    private static int slips(HookedCity x, int... bytes) {
        Probe.tape(x, bytes);
        int many = x.slips();
        Probe.due("the tape is empty then", x.count(4), 0);
        return many;
    }

    private static void slipping() {
        HookedCity x = row(5);
        Probe.due("least ahead of any", x.slipLeast(), Probe.NONE);
        Probe.due("turn ahead of any", x.turn(), Probe.NONE);
        Probe.due("none fits", slips(x, 0, 3), 0);
        Probe.due("least ahead of any above 0", x.slipLeast(), Probe.NONE);
        Probe.due("turn ahead of any above 0", x.turn(), Probe.NONE);
        // s of 3, 4, 5 have 2 in 3; s up to 3 leaves 3 OPEN
        Probe.due("s from 3 on", slips(x, 2, 3), 3);
        Probe.due("least", x.slipLeast(), 3);
        Probe.due("both", slips(x, 2, 3, 3, 255), 1);
        Probe.due("least", x.slipLeast(), 3);
        Probe.due("s up to 3", slips(x, 3, 255), 4);
        Probe.due("least", x.slipLeast(), 0);
        Probe.due("the last is OPEN whatever s", slips(x, 4, 255), 6);
        Probe.due("one against the other", slips(x, 0, 2, 3, 4), 0);
        Probe.due("the same twice", slips(x, 1, 3, 1, 3), 2);
        Probe.due("the same unlike", slips(x, 1, 3, 1, 2), 0);
        Probe.due("a wrong tape leaves it", slips(x, 1), Probe.NONE);
        Probe.due("least by the latest above 0", x.slipLeast(), 0);
        Probe.due("eight", slips(x, 0, 1, 1, 2, 2, 4, 3, 255, 4, 255, 0, 1, 1, 2, 2, 4), 1);
        Probe.due("least", x.slipLeast(), 2);
        x = row(1);
        Probe.due("one alone", slips(x, 0, 255), 2);
        Probe.due("turn", x.turn(), 0);
        Probe.due("into himself", slips(x, 0, 0), 0);
    }

    private static void notAsTold() {
        HookedCity x = row(3);
        Probe.due("nothing", slips(x), Probe.NONE);
        Probe.due("half a pair", slips(x, 0), Probe.NONE);
        Probe.due("a pair and a half", slips(x, 0, 1, 2), Probe.NONE);
        Probe.due("no such PERSON", slips(x, 3, 255), Probe.NONE);
        Probe.due("no such other one", slips(x, 0, 3), Probe.NONE);
        Probe.due("254", slips(x, 0, 254), Probe.NONE);
        Probe.due("255 is no PERSON", slips(x, 255, 0), Probe.NONE);
        Probe.due("behind a good pair", slips(x, 0, 1, 0, 9), Probe.NONE);
        Probe.due("behind one that does not fit", slips(x, 0, 0, 0, 9), Probe.NONE);
        Probe.due("nine", slips(x, 0, 1, 0, 1, 0, 1, 0, 1, 0, 1, 0, 1, 0, 1, 0, 1, 0, 1), Probe.NONE);
        Probe.due("no PERSONS", slips(new HookedCity(), 0, 255), Probe.NONE);
        Probe.due("ahead of any", x.turn(), Probe.NONE);
    }

    private static void turning() {
        HookedCity x = row(9);
        Probe.due("all ten", slips(x, 8, 255), 10);
        // by p's button s up to p are parted from those behind: five and five by p of 4
        Probe.due("turn", x.turn(), 4);
        Probe.due("0 to 4", slips(x, 4, 6), 5);
        Probe.due("turn", x.turn(), 1);
        Probe.due("5 to 9", slips(x, 4, 5), 5);
        Probe.due("turn", x.turn(), 6);
        Probe.due("8 and 9", slips(x, 7, 8), 2);
        Probe.due("nobody's button parts these: the first", x.turn(), 0);
        Probe.due("7 to 9", slips(x, 6, 7), 3);
        Probe.due("7 from 8 and 9", x.turn(), 7);
        Probe.due("only 3", slips(x, 3, 5, 2, 3), 1);
        Probe.due("one is left whoever is turned", x.turn(), 0);
        Probe.due("again", slips(x, 4, 5), 5);
        Probe.city(x, "person ann bone bone 1;");
        Probe.due("as it was then", x.turn(), 6);
        Probe.due("as it was then", x.slipLeast(), 5);
    }

    private static void path(HookedCity x, int... due) {
        int last = due.length - 1;
        Probe.due("way", x.way(due[0], due[last]), last);
        for (int k = 0; k <= last; k++) {
            Probe.due("wayAt " + k, x.wayAt(k), due[k]);
        }
        Probe.due("behind it", x.wayAt(last + 1), Probe.NONE);
        Probe.due("ahead of it", x.wayAt(-1), Probe.NONE);
    }

    private static void ways() {
        StringBuilder text = new StringBuilder();
        for (int p = 0; p < 9; p++) {
            text.append("person p").append((char) ('a' + p)).append(" bone bone 1;");
        }
        String[] streets = {"a d", "a c", "d e", "c f", "e b", "f b", "g h", "c e"};
        for (String street : streets) {
            text.append("street p").append(street.charAt(0)).append(" p").append(street.charAt(2)).append(';');
        }
        HookedCity x = Probe.of(text.toString());
        Probe.due("ahead of any", x.wayAt(0), Probe.NONE);
        path(x, 0, 2, 4, 1);
        path(x, 1, 4, 2, 0);
        path(x, 3, 0, 2);
        path(x, 3, 0, 2, 5);
        path(x, 5, 2, 0);
        path(x, 6, 7);
        path(x, 8);
        Probe.due("none", x.way(0, 6), Probe.NONE);
        Probe.due("no such one", x.way(0, 9), Probe.NONE);
        Probe.due("no such one", x.way(-1, 0), Probe.NONE);
        Probe.due("no such one", x.way(9, 9), Probe.NONE);
        Probe.due("the latest that was not NONE", x.wayAt(0), 8);
        path(x, 2, 4, 1);
        Probe.city(x, "");
        Probe.due("it stays", x.wayAt(2), 1);
        StringBuilder line = new StringBuilder(text.substring(0, text.indexOf("street")));
        for (int p = 0; p < 8; p++) {
            line.append("street p").append((char) ('a' + p)).append(" p").append((char) ('b' + p)).append(';');
        }
        path(Probe.of(line.toString()), 8, 7, 6, 5, 4, 3, 2, 1, 0);
    }
}
