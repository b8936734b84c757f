/** Promises 4 to 7: city, fault, person, maid; the FAULTS of a CITY. */
public final class CityTest {
    private static final String TWO = "person ann pearl bone 2;person bob bone pearl 9;";

    public static void main(String[] args) {
        lines();
        stays();
        noTokens();
        numbers();
        names();
        pairs();
        tooMany();
        lengths();
        persons();
        maids();
        Probe.finish();
    }

    private static void good(String text, int lines) {
        HookedCity x = new HookedCity();
        Probe.due("city of " + text, Probe.city(x, text), lines);
        Probe.due("no FAULT in " + text, x.fault(), 0);
        Probe.due("the tape is empty then", x.count(4), 0);
    }

    private static void bad(String text, int kind, int place) {
        HookedCity x = new HookedCity();
        Probe.due("city of " + text, Probe.city(x, text), -1 - place);
        Probe.due("fault of " + text, x.fault(), kind);
        Probe.due("the tape is empty then", x.count(4), 0);
        Probe.due("the CITY stays", x.count(0), 0);
    }

    /** The FAULT is at the sign !, which is not part of the text. */
    private static void badAt(String text, int kind) {
        int place = text.indexOf('!');
        bad(text.substring(0, place) + text.substring(place + 1), kind, place);
    }

    private static void lines() {
        good("", 0);
        good(" \n \n", 0);
        good("spare 0;", 1);
        good("spare 20;year 2;july 60;", 3);
        good("year 60;july 0;spare 001;", 3);
        good("  spare\n3 ;\nyear\n\n2;july 0 ; ", 3);
        good(TWO + "maid may 1;street bob ann;done ann bob;done bob ann;", 6);
        good("person a pearl pearl 1;person abcdefg glass brass 9;maid b 9;", 3);
        good("maid ann 1;person bob bone bone 1;", 2);
    }

    private static void stays() {
        HookedCity x = Probe.of(TWO + "maid may 2;street ann bob;done ann bob;");
        Probe.due("sentence", Probe.sentence(x, "open"), 1);
        x.days(3);
        String before = Probe.all(x);
        Probe.due("a FAULT", Probe.city(x, "spare 3"), -1 - 7);
        Probe.due("all stays", Probe.all(x).equals(before), true);
        Probe.due("acts can be undone still", x.undo(), 0);
        Probe.due("fault", x.fault(), 1);
        Probe.due("a new CITY", Probe.city(x, TWO), 2);
        Probe.due("fault of the latest", x.fault(), 0);
        Probe.due("DAY 0", x.now(0), 0);
        Probe.due("all STRENGTH", x.person(0, 3), 2);
        Probe.due("OPEN", x.now(1), 3);
        Probe.due("no SENTENCE", x.said(Probe.NONE), Probe.NONE);
        Probe.due("no streets", x.near(0), 0);
        Probe.due("no MAIDS", x.count(1), 0);
        Probe.due("nothing to undo", x.undo(), Probe.NONE);
    }

    private static void noTokens() {
        badAt("!Spare 3;", 1);
        badAt("spare !3a;", 1);
        badAt("spare !1234;", 1);
        badAt("spare 3!", 1);
        badAt("spare 3 \n!", 1);
        badAt("spare !", 1);
        badAt("spare!", 1);
        badAt("spare !;", 1);
        badAt("spare !x;", 1);
        badAt("spare 3!.", 1);
        badAt("spare 3!\t;", 1);
        badAt("spare 3;!;", 1);
        badAt("!ann;", 1);
        badAt("!pearl;", 1);
        badAt("!3;", 1);
        badAt("!spare3;", 1);
        badAt("person !abcdefgh bone bone 1;", 1);
        badAt("person ann !wood bone 1;", 1);
        badAt("person ann bone !3 1;", 1);
        badAt("person ann bone bone !bone;", 1);
        badAt("person ann bone bone !1x;", 1);
        bad("spare 3" + (char) 200 + ";", 1, 7);
        bad("spare 3" + (char) 0 + ";", 1, 7);
        for (String word : ("person maid street done spare year july pearl bone brass glass buttons looses mend day or "
                + "and not open bare torn ring with near loop chain number").split(" ")) {
            badAt("person !" + word + " bone bone 1;", 1);
            badAt("maid !" + word + " 1;", 1);
            badAt("person ann bone bone 1;street !" + word + " ann;", 1);
        }
    }

    private static void numbers() {
        badAt("person ann bone bone !0;", 2);
        badAt("person ann bone bone !10;", 2);
        badAt("maid may !0;", 2);
        badAt("maid may !10;", 2);
        badAt("spare !21;", 2);
        badAt("year !1;", 2);
        badAt("year !61;", 2);
        badAt("july !61;", 2);
        badAt("july !999;", 2);
    }

    private static void names() {
        badAt(TWO + "person !ann bone bone 1;", 3);
        badAt(TWO + "maid !ann 1;", 3);
        badAt("maid may 1;person !may bone bone 1;", 3);
        badAt("maid may 1;maid !may 1;", 3);
        badAt(TWO + "street !cid ann;", 3);
        badAt(TWO + "street ann !cid;person cid bone bone 1;", 3);
        badAt(TWO + "maid may 1;street !may ann;", 3);
        badAt(TWO + "maid may 1;done ann !may;", 3);
        badAt("spare 1;!spare 1;", 3);
        badAt("year 12;!year 99;", 3);
        badAt("july 1;!july;", 3);
    }

    private static void pairs() {
        badAt(TWO + "street ann !ann;", 3);
        badAt(TWO + "street ann bob;street ann !bob;", 3);
        badAt(TWO + "street ann bob;street bob !ann;", 3);
        badAt(TWO + "done ann !ann;", 3);
        badAt(TWO + "done ann bob;done !ann bob;", 3);
        badAt(TWO + "done ann bob;done !ann cid;", 3);
        badAt(TWO + "person cid bone bone 1;done ann bob;done cid !bob;", 3);
        badAt(TWO + "person cid bone bone 1;done cid !ann;", 3);
        badAt(TWO + "person cid bone bone 1;done ann !;", 1);
        good(TWO + "person cid bone bone 1;done ann cid;done cid bob;done bob ann;", 6);
    }

    private static void tooMany() {
        StringBuilder nine = new StringBuilder();
        for (int i = 0; i < 9; i++) {
            nine.append("person p").append((char) ('a' + i)).append(" bone bone 1;");
        }
        good(nine.toString(), 9);
        badAt(nine + "!person pa bone bone 1;", 4);
        badAt(nine + "!person", 4);
        String three = "maid ma 1;maid mb 1;maid mc 1;";
        good(three, 3);
        badAt(three + "!maid ma 1;", 4);
        good(nine + three, 12);
    }

    private static void lengths() {
        String blanks = " ".repeat(892);
        good(blanks + "spare 3;", 1);
        good("spare 3;" + blanks, 1);
        bad("spare 3;" + blanks + " ", 1, 900);
        bad(blanks + " spare 3;", 1, 900);
        bad(blanks + "  spare 3", 1, 900);
        bad(blanks + "  spare 99;", 1, 900);
        bad(blanks + " spare 99;", 2, 899);
        bad(blanks + " spare 9999;", 1, 899);
        bad(blanks + " year 60;;", 1, 900);
        bad(blanks + " july 6x;", 1, 898);
        bad(" ".repeat(940), 1, 900);
        bad("!" + " ".repeat(939), 1, 0);
        good(" ".repeat(900), 0);
    }

    private static void persons() {
        HookedCity x = Probe.of("person ann glass pearl 2;person bob pearl brass 9;person cid brass bone 5;"
            + "person dot bone bone 1;year 2;july 1;done ann bob;done bob cid;done cid dot;");
        int[][] due = {
            {3, 0, 2, 2, 1, -1, 3, 0}, {0, 2, 9, 9, 2, 0, 2, 0}, {2, 1, 5, 5, 3, 1, 1, 0}, {1, 1, 1, 1, -1, 2, 0, 0},
        };
        for (int p = -1; p <= 4; p++) {
            for (int what = -1; what <= 8; what++) {
                boolean is = p >= 0 && p < 4 && what >= 0 && what < 8;
                Probe.due("person " + p + " " + what, Probe.person(x, p, what), is ? due[p][what] : Probe.THROWS);
            }
        }
        x.days(1);
        Probe.due("what is left", x.person(1, 3), 8);
        Probe.due("all of it stays", x.person(1, 2), 9);
        Probe.due("a BARE loop does not wear", x.person(0, 3), 2);
        Probe.due("PERISHED", x.person(3, 3), 0);
        Probe.due("the button is out", x.person(2, 4), -1);
        Probe.due("nothing is in it", x.person(3, 5), -1);
        Probe.due("a shorter CHAIN", x.person(0, 6), 2);
        x = Probe.of("person ann bone bone 2;person bob bone bone 2;person cid bone bone 2;person dot bone bone 2;"
            + "person eve bone bone 1;done cid ann;done ann dot;done dot cid;done bob eve;");
        int[] chains = {2, 1, 2, 2, 0};
        int[] rings = {1, 0, 1, 1, 0};
        for (int p = 0; p < 5; p++) {
            Probe.due("CHAIN " + p, x.person(p, 6), chains[p]);
            Probe.due("RING " + p, x.person(p, 7), rings[p]);
        }
    }

    private static void maids() {
        HookedCity x = Probe.of(TWO + "maid may 2;maid sue 9;street ann bob;done ann bob;");
        Probe.due("HOOKS", x.maid(0, 0), 2);
        Probe.due("HOOKS", x.maid(1, 0), 9);
        Probe.due("did nothing", x.maid(1, 1), 0);
        Probe.due("looses", x.loose(1, 0), 0);
        Probe.due("did one", x.maid(1, 1), 1);
        Probe.due("buttons", x.button(1, 0, 1), 0);
        Probe.due("did two", x.maid(1, 1), 2);
        Probe.due("refused", x.button(1, 0, 1), 5);
        Probe.due("a refusal is nothing done", x.maid(1, 1), 2);
        Probe.due("the other one", x.maid(0, 1), 0);
        x.days(1);
        Probe.due("another DAY", x.maid(1, 1), 0);
        int[][] none = {{-1, 0}, {2, 0}, {0, 2}, {0, -1}, {Integer.MIN_VALUE, 1}};
        for (int[] one : none) {
            Probe.due("maid " + one[0] + " " + one[1], x.maid(one[0], one[1]), Probe.NONE);
        }
    }
}
