/** Edges of a CITY: from where to where each NUMBER goes, what is told once, how many there may be of a sort. */
public final class CityEdgeTest {
    private static final String TWO = "person ann pearl bone 2;person bob bone pearl 9;";
    private static final String THREE = TWO + "person cid bone bone 1;maid may 1;";
    private static final String[] KINDS = {"pearl", "bone", "brass", "glass"};
    private static final String WORDS = "person maid street done spare year july pearl bone brass glass buttons looses "
        + "mend day or and not open bare torn ring with near loop chain number";

    public static void main(String[] args) {
        for (int n = 0; n <= 999; n++) {
            numbers(n);
        }
        without();
        once();
        kinds();
        noKinds();
        names();
        namesTwice();
        lines();
        shortLines();
        streets();
        done();
        doneUnlike();
        least();
        tooMany();
        fullest();
        anew();
        stays();
        Probe.finish();
    }

    /** STRENGTH 1 to 9, HOOKS 1 to 9, 'spare' 0 to 20, 'year' 2 to 60, 'july' 0 to 60. */
    private static void numbers(int n) {
        String[] lines = {"person ann bone bone ", "maid may ", "spare ", "year ", "july "};
        int[] least = {1, 1, 0, 2, 0};
        int[] most = {9, 9, 20, 60, 60};
        for (int i = 0; i < lines.length; i++) {
            HookedCity x = new HookedCity();
            String text = lines[i] + n + ";";
            if (n < least[i] || n > most[i]) {
                Probe.fault(x, Probe.CITY, text, 2, lines[i].length());
                Probe.due("the CITY stays", x.count(0) + x.count(1) + x.now(4), 0);
                Probe.due("the CITY stays", x.count(2) * 100 + x.count(3), 1201);
            } else {
                Probe.fine(x, Probe.CITY, text);
                Probe.due(text, i == 0 ? x.person(0, 2) : i == 1 ? x.maid(0, 0) : i == 2 ? x.now(4) : x.count(i - 1), n);
            }
        }
    }

    /** 0 spares, 12, 1 without: on a new object, in a CITY without them, and behind a CITY that had them. */
    private static void without() {
        HookedCity x = new HookedCity();
        toldNone(x);
        String[] texts = {"", "maid may 1;", "spare 7;year 9;july 5;", "", "maid may 1;"};
        for (String text : texts) {
            Probe.fine(x, Probe.CITY, text);
            if (!text.startsWith("spare")) {
                toldNone(x);
            }
        }
        Probe.fine(x, Probe.CITY, "spare 7;");
        Probe.due("12 without", x.count(2), 12);
        Probe.due("1 without", x.count(3), 1);
        Probe.fine(x, Probe.CITY, "year 7;");
        Probe.due("0 without", x.now(4), 0);
        Probe.due("1 without", x.count(3), 1);
        Probe.fine(x, Probe.CITY, "july 7;");
        Probe.due("0 without", x.now(4), 0);
        Probe.due("12 without", x.count(2), 12);
    }

    private static void toldNone(HookedCity x) {
        Probe.due("no spares without", x.now(4), 0);
        Probe.due("a year of 12 without", x.count(2), 12);
        Probe.due("a july of 1 without", x.count(3), 1);
    }

    private static void once() {
        HookedCity x = new HookedCity();
        String[] lines = {"spare 3;", "year 3;", "july 3;"};
        for (String line : lines) {
            Probe.faultAt(x, Probe.CITY, line + "!" + line, 3);
            Probe.faultAt(x, Probe.CITY, line + TWO + "\n!" + line, 3);
            // what is told again comes ahead of a NUMBER that is not as told, and of none
            Probe.faultAt(x, Probe.CITY, line + "!" + line.replace("3", "99"), 3);
            Probe.faultAt(x, Probe.CITY, line + "!" + line.replace(" 3;", ""), 3);
            for (String other : lines) {
                if (!other.equals(line)) {
                    Probe.fine(x, Probe.CITY, line + other);
                }
            }
            // what was told as without is told once all the same
            String asWithout = line.equals(lines[0]) ? "spare 0;" : line.equals(lines[1]) ? "year 12;" : "july 1;";
            Probe.faultAt(x, Probe.CITY, asWithout + "!" + line, 3);
        }
        // a CITY with a FAULT does not tell for the next one
        Probe.faultAt(x, Probe.CITY, "spare 3;year 3;july 3;!?", 1);
        Probe.fine(x, Probe.CITY, "spare 3;year 3;july 3;");
    }

    private static void kinds() {
        HookedCity x = new HookedCity();
        for (int loop = 0; loop < 4; loop++) {
            for (int button = 0; button < 4; button++) {
                Probe.fine(x, Probe.CITY, "person ann " + KINDS[loop] + " " + KINDS[button] + " 1;");
                Probe.due("KIND of the loop", x.person(0, 0), loop);
                Probe.due("KIND of the button", x.person(0, 1), button);
            }
        }
    }

    private static void noKinds() {
        HookedCity x = new HookedCity();
        String[] others = (WORDS + " ann wood pearls glas bones 0 3 ; ( <").split(" ");
        for (String other : others) {
            boolean isKind = other.equals("pearl") || other.equals("bone") || other.equals("brass") || other.equals("glass");
            if (!isKind) {
                Probe.faultAt(x, Probe.CITY, "person ann !" + other + " bone 1;", 1);
                Probe.faultAt(x, Probe.CITY, "person ann bone !" + other + " 1;", 1);
                Probe.faultAt(x, Probe.CITY, "person ann bone bone 1;person bob bone !" + other, 1);
            }
        }
    }

    /** No WORD of the document is a NAME; one letter less or more is. */
    private static void names() {
        HookedCity x = Probe.of(TWO + "maid may 1;");
        for (String word : WORDS.split(" ")) {
            Probe.faultAt(x, Probe.CITY, "person !" + word + " bone bone 1;", 1);
            Probe.faultAt(x, Probe.CITY, "maid !" + word + " 1;", 1);
            Probe.faultAt(x, Probe.CITY, TWO + "street !" + word + " ann;", 1);
            Probe.faultAt(x, Probe.CITY, TWO + "street ann !" + word + ";", 1);
            Probe.faultAt(x, Probe.CITY, TWO + "done !" + word + " ann;", 1);
            Probe.faultAt(x, Probe.CITY, TWO + "done ann !" + word + ";", 1);
            String[] near = {word.substring(1), word.substring(0, word.length() - 1), word + "x", "x" + word};
            for (String name : near) {
                boolean isName = name.length() <= 7 && !(" " + WORDS + " ").contains(" " + name + " ");
                HookedCity y = new HookedCity();
                if (isName) {
                    Probe.fine(y, Probe.CITY, "person " + name + " bone bone 1;");
                    Probe.fine(y, Probe.CITY, "maid " + name + " 1;");
                } else {
                    Probe.fault(y, Probe.CITY, "maid " + name + " 1;", 1, 5);
                }
            }
        }
        String[] none = {"3", ";", "(", "<", "A", "abcdefgh", "a1"};
        for (String token : none) {
            Probe.faultAt(x, Probe.CITY, "person !" + token + " bone bone 1;", 1);
            Probe.faultAt(x, Probe.CITY, "maid !" + token + " 1;", 1);
            Probe.faultAt(x, Probe.CITY, TWO + "street !" + token + " bob;", 1);
            Probe.faultAt(x, Probe.CITY, TWO + "street ann !" + token + ";", 1);
            Probe.faultAt(x, Probe.CITY, TWO + "done !" + token + " bob;", 1);
            Probe.faultAt(x, Probe.CITY, TWO + "done ann !" + token + ";", 1);
        }
    }

    private static void namesTwice() {
        HookedCity x = new HookedCity();
        Probe.faultAt(x, Probe.CITY, TWO + "person !ann bone bone 1;", 3);
        Probe.faultAt(x, Probe.CITY, TWO + "person !bob bone bone 1;", 3);
        Probe.faultAt(x, Probe.CITY, TWO + "maid !bob 1;", 3);
        Probe.faultAt(x, Probe.CITY, "maid may 1;maid sue 1;maid !sue 1;", 3);
        Probe.faultAt(x, Probe.CITY, "maid may 1;maid sue 1;person !sue bone bone 1;", 3);
        // a NAME told twice comes ahead of what is behind it
        Probe.faultAt(x, Probe.CITY, TWO + "person !ann wood", 3);
        Probe.faultAt(x, Probe.CITY, TWO + "maid !ann 0;", 3);
        // a CITY with a FAULT, and another CITY, leave no NAMES
        Probe.fine(x, Probe.CITY, TWO);
        Probe.fine(x, Probe.CITY, TWO);
        Probe.fine(x, Probe.CITY, "maid ann 1;person may bone bone 1;");
    }

    /** What can begin a LINE of a CITY: seven WORDS, no other, no NAME, and ; not alone. */
    private static void lines() {
        String first = " person maid street done spare year july ";
        for (String word : WORDS.split(" ")) {
            HookedCity x = new HookedCity();
            if (!first.contains(" " + word + " ")) {
                Probe.faultAt(x, Probe.CITY, "!" + word + " 1;", 1);
                Probe.faultAt(x, Probe.CITY, TWO + "!" + word + " 1;", 1);
            } else {
                Probe.faultAt(x, Probe.CITY, word + "!", 1);
                Probe.faultAt(x, Probe.CITY, word + "!;", 1);
            }
        }
        HookedCity x = new HookedCity();
        Probe.faultAt(x, Probe.CITY, TWO + "!ann;", 1);
        Probe.faultAt(x, Probe.CITY, "spare 1;!;", 1);
        Probe.faultAt(x, Probe.CITY, "spare !1spare", 1);
        Probe.faultAt(x, Probe.CITY, "spare 1 !year 3;", 1);
    }

    /** A LINE that ends too soon has its FAULT at the ; and one that goes on at what comes instead of it. */
    private static void shortLines() {
        HookedCity x = new HookedCity();
        String[] faults = {"person!;", "person eve!;", "person eve bone!;", "person eve bone bone!;", "maid!;",
            "maid sue!;", "street!;", "street ann!;", "done!;", "done ann!;", "spare!;", "year!;", "july!;",
            "person eve bone bone 1 !1;", "maid sue 1 !1;", "street ann bob !cid;", "done ann bob !cid;",
            "spare 1 !2;", "year 2 !3;", "july 1 !1;", "street ann bob !", "done ann bob!"};
        for (String fault : faults) {
            Probe.faultAt(x, Probe.CITY, THREE + fault, 1);
        }
    }

    private static String name(int p) {
        return String.valueOf((char) ('a' + p));
    }

    private static String persons(int many) {
        StringBuilder text = new StringBuilder();
        for (int p = 0; p < many; p++) {
            text.append("person ").append(name(p)).append(" bone bone 1;");
        }
        return text.toString();
    }

    /** Each two once, in whatever order; unlike; told; PERSONS. */
    private static void streets() {
        for (int p = 0; p < 9; p++) {
            for (int q = 0; q < 9; q++) {
                HookedCity x = new HookedCity();
                String line = "street " + name(p) + " ";
                if (p == q) {
                    Probe.faultAt(x, Probe.CITY, persons(9) + line + "!" + name(q) + ";", 3);
                    continue;
                }
                String one = persons(9) + line + name(q) + ";";
                Probe.fine(x, Probe.CITY, one);
                Probe.due("near", x.near(p), 1 << q);
                Probe.due("near", x.near(q), 1 << p);
                Probe.faultAt(x, Probe.CITY, one + line + "!" + name(q) + ";", 3);
                Probe.faultAt(x, Probe.CITY, one + "street " + name(q) + " !" + name(p) + ";", 3);
            }
        }
        HookedCity x = new HookedCity();
        Probe.faultAt(x, Probe.CITY, THREE + "street !eve ann;", 3);
        Probe.faultAt(x, Probe.CITY, THREE + "street ann !eve;", 3);
        Probe.faultAt(x, Probe.CITY, THREE + "street !may ann;", 3);
        Probe.faultAt(x, Probe.CITY, THREE + "street ann !may;", 3);
        Probe.faultAt(x, Probe.CITY, "street !ann bob;" + TWO, 3);
        Probe.faultAt(x, Probe.CITY, "person ann bone bone 1;street ann !bob;person bob bone bone 1;", 3);
    }

    /** Each button once (at the first), each loop once (at the second); a street is not asked for. */
    private static void done() {
        for (int p = 0; p < 3; p++) {
            for (int q = 0; q < 3; q++) {
                HookedCity x = new HookedCity();
                String line = "done " + name(p) + " ";
                if (p == q) {
                    Probe.faultAt(x, Probe.CITY, persons(3) + line + "!" + name(q) + ";", 3);
                    continue;
                }
                int other = 3 - p - q;
                String one = persons(3) + line + name(q) + ";";
                Probe.fine(x, Probe.CITY, one);
                Probe.due("in whose loop", x.person(p, 4), q);
                Probe.due("whose button", x.person(q, 5), p);
                Probe.due("OPEN", x.now(1), 7 - (1 << p));
                Probe.due("BARE", x.now(2), 7 - (1 << q));
                Probe.faultAt(x, Probe.CITY, one + "done !" + name(p) + " " + name(other) + ";", 3);
                Probe.faultAt(x, Probe.CITY, one + "done " + name(other) + " !" + name(q) + ";", 3);
                Probe.faultAt(x, Probe.CITY, one + "done !" + name(p) + " " + name(q) + ";", 3);
                Probe.fine(x, Probe.CITY, one + "done " + name(q) + " " + name(p) + ";");
                Probe.fine(x, Probe.CITY, one + "done " + name(q) + " " + name(other) + ";");
                Probe.fine(x, Probe.CITY, one + "done " + name(other) + " " + name(p) + ";");
            }
        }
        HookedCity x = new HookedCity();
        Probe.faultAt(x, Probe.CITY, THREE + "done !eve ann;", 3);
        Probe.faultAt(x, Probe.CITY, THREE + "done ann !eve;", 3);
        Probe.faultAt(x, Probe.CITY, THREE + "done !may ann;", 3);
        Probe.faultAt(x, Probe.CITY, THREE + "done ann !may;", 3);
        Probe.faultAt(x, Probe.CITY, "done !ann bob;" + TWO, 3);
    }

    /** KINDS alike: his button and that loop, not the other way round. */
    private static void doneUnlike() {
        for (int loop = 0; loop < 4; loop++) {
            for (int button = 0; button < 4; button++) {
                HookedCity x = new HookedCity();
                int other = (loop + 1) % 4;
                String two = "person ann " + KINDS[other] + " " + KINDS[button] + " 1;person bob " + KINDS[loop] + " "
                    + KINDS[(other + 1) % 4] + " 1;";
                if (loop == button) {
                    Probe.fine(x, Probe.CITY, two + "done ann bob;");
                } else {
                    Probe.faultAt(x, Probe.CITY, two + "done ann !bob;", 3);
                }
            }
        }
    }

    /** The first FAULT along the text, whatever comes behind it; of one TOKEN the least. */
    private static void least() {
        HookedCity x = new HookedCity();
        Probe.faultAt(x, Probe.CITY, "year !99;spare ?;", 2);
        Probe.faultAt(x, Probe.CITY, "spare !?;year 99;", 1);
        Probe.faultAt(x, Probe.CITY, TWO + "street ann !ann;year 99;?", 3);
        Probe.faultAt(x, Probe.CITY, TWO + "done ann bob;done !ann ?", 3);
        Probe.faultAt(x, Probe.CITY, TWO + "done ann bob;done !ann 3;", 3);
        Probe.faultAt(x, Probe.CITY, persons(9) + "!person ?", 4);
        Probe.faultAt(x, Probe.CITY, persons(9) + "!persons a bone bone 1;", 1);
        Probe.faultAt(x, Probe.CITY, "maid a 1;maid b 1;maid c 1;!maid a 0", 4);
    }

    private static void tooMany() {
        for (int many = 0; many <= 9; many++) {
            HookedCity x = new HookedCity();
            Probe.fine(x, Probe.CITY, persons(many));
            Probe.due("PERSONS", x.count(0), many);
        }
        HookedCity x = new HookedCity();
        Probe.faultAt(x, Probe.CITY, persons(9) + "!person j bone bone 1;", 4);
        Probe.faultAt(x, Probe.CITY, persons(9) + "maid j 1;spare 3;!person k bone bone 1;", 4);
        StringBuilder maids = new StringBuilder();
        for (int many = 0; many <= 3; many++) {
            Probe.fine(x, Probe.CITY, maids.toString());
            Probe.due("MAIDS", x.count(1), many);
            Probe.fine(x, Probe.CITY, maids + persons(9));
            Probe.due("MAIDS and PERSONS", x.count(1) * 10 + x.count(0), many * 10 + 9);
            maids.append(many < 3 ? "maid m" + name(many) + " 1;" : "");
        }
        Probe.faultAt(x, Probe.CITY, maids + "!maid md 1;", 4);
        Probe.faultAt(x, Probe.CITY, maids + persons(9) + "!maid md 1;", 4);
        Probe.fine(x, Probe.CITY, maids + persons(9));
    }

    /** Every LINE that there can be at once: sixty. */
    private static void fullest() {
        StringBuilder text = new StringBuilder(persons(9)).append("maid j 9;maid k 9;maid l 9;");
        for (int p = 0; p < 9; p++) {
            for (int q = p + 1; q < 9; q++) {
                text.append("street ").append(name(q)).append(' ').append(name(p)).append(';');
            }
        }
        for (int p = 0; p < 9; p++) {
            text.append("done ").append(name(p)).append(' ').append(name((p + 1) % 9)).append(';');
        }
        text.append("spare 20;year 60;july 60;");
        HookedCity x = new HookedCity();
        Probe.due("sixty LINES", Probe.city(x, text.toString()), 60);
        for (int p = 0; p < 9; p++) {
            Probe.due("near all others", x.near(p), 511 - (1 << p));
            Probe.due("could into none", x.could(p), 0);
        }
        Probe.due("nobody is OPEN", x.now(1), 0);
        Probe.due("no loop is BARE", x.now(2), 0);
        Probe.due("match", x.match(), 9);
        int[] due = {1, 0, 3, 2, 5, 4, 7, 8, 6};
        for (int p = 0; p < 9; p++) {
            Probe.due("matched " + p, x.matched(p), due[p]);
        }
    }

    /** A new CITY has nothing of the two ahead of it. */
    private static void anew() {
        String plain = "person a bone bone 1;person b bone bone 1;maid m 9;";
        String busy = plain + "street a b;done a b;done b a;spare 9;year 2;july 2;";
        HookedCity x = new HookedCity();
        for (int i = 0; i < 3; i++) {
            Probe.fine(x, Probe.CITY, busy);
            Probe.due("loose", x.loose(0, 0), 0);
            Probe.due("button", x.button(0, 0, 1), 0);
            Probe.due("days", x.days(1), 1);
            Probe.due("mend", x.mend(0), 0);
            Probe.due("button", x.button(0, 1, 0), 0);
            Probe.fine(x, Probe.SENTENCE, "open");
        }
        Probe.fine(x, Probe.CITY, plain);
        Probe.due("DAY 0", x.now(0), 0);
        Probe.due("both are OPEN", x.now(1), 3);
        Probe.due("both are BARE", x.now(2), 3);
        Probe.due("none has PERISHED", x.now(3), 0);
        Probe.due("no spares", x.now(4), 0);
        Probe.due("none was buttoned", x.now(5), 0);
        Probe.due("none PERISHED", x.now(6), 0);
        Probe.due("no street", x.near(0) + x.near(1), 0);
        Probe.due("all STRENGTH", x.person(0, 3) + x.person(1, 3), 2);
        Probe.due("she has done nothing", x.maid(0, 1), 0);
        Probe.due("no SENTENCE", x.said(Probe.NONE), Probe.NONE);
        Probe.due("nothing to undo", x.undo(), Probe.NONE);
    }

    /** With a FAULT the CITY stays, with all that is so, and the tape is empty. */
    private static void stays() {
        HookedCity x = Probe.of(THREE + "street ann bob;done ann bob;spare 2;year 2;july 1;");
        x.days(1);
        x.loose(0, 0);
        x.match();
        Probe.sentence(x, "open");
        String before = Probe.all(x);
        int takes = x.takes();
        String[] faults = {"person ann bone bone 9;?", "year 1;", "street ann bob;", persons(9) + "person z", "spare",
            "person eve glass glass 9;maid kit 9;spare 20;year 60;july 60;;", " ".repeat(901)};
        for (String text : faults) {
            Probe.due("a FAULT", Probe.city(x, text) < 0, true);
            Probe.due("all stays", Probe.all(x).equals(before), true);
            Probe.due("the tape is empty", x.count(4), 0);
            Probe.due("the NAMES stay", Probe.card(x, 0).equals("ann open bare"), true);
            Probe.due("what is to be done stays", x.takes(), takes);
        }
        Probe.fine(x, Probe.BOOK, "may looses ann;mend cid;");
        Probe.due("two acts can be undone", x.undo(), 1);
    }
}
