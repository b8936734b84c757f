/** Edges of a SENTENCE: how many ONES, how deep, its NUMBERS and WORDS, of whom it may be said. */
public final class SentenceEdgeTest {
    private static final String CITY = "person ann bone bone 3;person bob bone bone 1;person cid bone bone 2;"
        + "person dot bone bone 9;person eve bone bone 1;maid may 9;street ann bob;street bob cid;street dot eve;"
        + "done ann cid;done cid ann;done dot bob;";
    private static final String WORDS = "person maid street done spare year july pearl bone brass glass buttons looses "
        + "mend day or and not open bare torn ring with near loop chain number";

    public static void main(String[] args) {
        measures();
        numbers();
        signs();
        firstTokens();
        behindOne();
        names();
        howManyOnes();
        twentyCount();
        twentyFirst();
        within();
        ninthWithin();
        kthOne();
        nobody();
        wholeCity();
        stays();
        rings();
        Probe.finish();
    }

    private static HookedCity city() {
        return Probe.of(CITY);
    }

    private static void says(HookedCity x, String text, int ones, int bits) {
        Probe.due("ONES of " + text, Probe.sentence(x, text), ones);
        Probe.due("no FAULT: " + text, x.fault(), 0);
        Probe.due("of how many: " + text, x.said(Probe.NONE), Integer.bitCount(bits));
        int k = 0;
        for (int p = 0; p < 9; p++) {
            if ((bits >> p & 1) != 0) {
                Probe.due("of whom: " + text, x.said(k), p);
                k++;
            }
        }
        Probe.due("none behind the last: " + text, x.said(k), Probe.NONE);
    }

    /** Each SIGN below, at and above what is measured; what is alike is neither < nor >. */
    private static void measures() {
        int[] loop = {3, 1, 2, 9, 1};
        int[] chain = {1, 0, 1, 1, 0};
        int[] number = {0, 1, 2, 3, 4};
        for (int n = 0; n <= 10; n++) {
            measured("loop", loop, n);
            measured("chain", chain, n);
            measured("number", number, n);
        }
        measured("loop", loop, 999);
        measured("chain", chain, 999);
        measured("number", number, 999);
    }

    private static void measured(String what, int[] of, int n) {
        int below = 0;
        int alike = 0;
        int above = 0;
        for (int p = 0; p < of.length; p++) {
            below |= of[p] < n ? 1 << p : 0;
            alike |= of[p] == n ? 1 << p : 0;
            above |= of[p] > n ? 1 << p : 0;
        }
        HookedCity x = city();
        says(x, what + "<" + n, 1, below);
        says(x, what + " = " + n, 1, alike);
        says(x, what + ">\n" + n, 1, above);
    }

    /** A NUMBER of a SENTENCE: 0 to 999, all that a TOKEN can be. */
    private static void numbers() {
        HookedCity x = city();
        says(x, "number<0", 1, 0);
        says(x, "number>0", 1, 30);
        says(x, "number=00", 1, 1);
        says(x, "number=004", 1, 16);
        says(x, "number<999", 1, 31);
        says(x, "number>999", 1, 0);
        Probe.faultAt(x, Probe.SENTENCE, "number<!1000", 1);
        Probe.faultAt(x, Probe.SENTENCE, "number<!-1", 1);
        Probe.faultAt(x, Probe.SENTENCE, "number<!", 1);
        Probe.faultAt(x, Probe.SENTENCE, "number<!ann", 1);
        Probe.faultAt(x, Probe.SENTENCE, "number<!open", 1);
        Probe.faultAt(x, Probe.SENTENCE, "number<!)", 1);
    }

    private static void signs() {
        HookedCity x = city();
        String[] none = {";", "(", ")", "3", "ann", "open", "?", "!", "+"};
        for (String sign : none) {
            Probe.fault(x, Probe.SENTENCE, "loop" + (sign.matches("\\w+") ? " " : "") + sign + " 3", 1,
                sign.matches("\\w+") ? 5 : 4);
        }
        Probe.faultAt(x, Probe.SENTENCE, "chain!", 1);
        Probe.faultAt(x, Probe.SENTENCE, "loop<!=3", 1);
        Probe.faultAt(x, Probe.SENTENCE, "loop>!>3", 1);
    }

    /** What can begin a ONE: not, (, and nine WORDS. */
    private static void firstTokens() {
        String right = " not open bare torn ring with near loop chain number ";
        String[] heads = {"", "open or ", "open and ", "not ", "("};
        for (String word : (WORDS + " ann may eve2 3 ; ) < = > ? abcdefgh").split(" ")) {
            if (!right.contains(" " + word + " ")) {
                for (String head : heads) {
                    Probe.faultAt(city(), Probe.SENTENCE, head + "!" + word, 1);
                }
            }
        }
        for (String head : heads) {
            Probe.faultAt(city(), Probe.SENTENCE, head + "!", 1);
            Probe.faultAt(city(), Probe.SENTENCE, head + "\n !", 1);
        }
    }

    /** What can come behind a ONE: or, and, the ) of an open bracket, the end. */
    private static void behindOne() {
        String[] none = (WORDS + " ann may 3 ; ( < = > ?").split(" ");
        for (String token : none) {
            if (!token.equals("or") && !token.equals("and")) {
                Probe.faultAt(city(), Probe.SENTENCE, "open !" + token + " bare", 1);
                Probe.faultAt(city(), Probe.SENTENCE, "(open !" + token + " bare)", 1);
                Probe.faultAt(city(), Probe.SENTENCE, "not with ann !" + token, 1);
                Probe.faultAt(city(), Probe.SENTENCE, "loop<3 !" + token, 1);
            }
        }
        Probe.faultAt(city(), Probe.SENTENCE, "open!)", 1);
        Probe.faultAt(city(), Probe.SENTENCE, "(open)!)", 1);
        Probe.faultAt(city(), Probe.SENTENCE, "((open)!", 1);
        Probe.faultAt(city(), Probe.SENTENCE, "(!)", 1);
    }

    private static void names() {
        String[] heads = {"with ", "near ", "not with ", "(near ", "open or near "};
        for (String head : heads) {
            for (String word : (WORDS + " 3 ; ) ? abcdefgh ann1").split(" ")) {
                Probe.faultAt(city(), Probe.SENTENCE, head + "!" + word, 1);
            }
            Probe.faultAt(city(), Probe.SENTENCE, head + "!may", 3);
            Probe.faultAt(city(), Probe.SENTENCE, head + "!nobody ?", 3);
        }
        HookedCity x = city();
        says(x, "with ann", 1, 5);
        says(x, "with eve", 1, 16);
        says(x, "near ann", 1, 2);
        says(x, "near bob", 1, 5);
        says(x, "near eve", 1, 8);
    }

    /** One to twenty ONES, joined each way; the last ONE counts. */
    private static void howManyOnes() {
        for (int many = 1; many <= 20; many++) {
            HookedCity x = city();
            says(x, "torn" + " or torn".repeat(many - 1), many, 0);
            says(x, many == 1 ? "ring" : "torn" + " or torn".repeat(many - 2) + " or ring", many, 5);
            says(x, many == 1 ? "ring" : "bare" + " or ring".repeat(many - 1), many, many == 1 ? 5 : 5 | 8 | 16);
            x = city();
            says(x, many == 1 ? "with eve" : "open" + " and open".repeat(many - 2) + " and with eve", many, 16);
            says(x, many == 1 ? "open" : "with eve" + " and open".repeat(many - 1), many, many == 1 ? 2 + 16 : 16);
        }
        HookedCity x = city();
        says(x, "torn" + " and ring or torn".repeat(9) + " or ring", 20, 5);
        says(x, "ring and torn or ".repeat(9) + "ring and open", 20, 0);
        // as many ONES as there may be are open at once: each waits for the one behind it
        says(x, "(ring or (ring or (ring or (ring or (ring or (ring or torn and open))))))", 14, 5);
        says(x, "torn or ring and (torn or ring and (torn or ring and (torn or ring and(torn or ring and not(torn)))))",
            17, 5);
    }

    /** Each not and each bracket is a ONE too. */
    private static void twentyCount() {
        HookedCity x = city();
        says(x, "not open" + " and not open".repeat(9), 20, 1 + 4 + 8);
        says(x, "(open)" + " or(open)".repeat(9), 20, 2 + 16);
        says(x, "not(open)" + " and not(open)".repeat(5) + " and not bare", 20, 1 + 4);
        says(x, "((open)or(bare))" + " or((open)or(bare))".repeat(3), 20, 2 + 8 + 16);
    }

    /** A 21st ONE: FAULT 4 at its first TOKEN, whatever it is; one that can't come is FAULT 1 all the same. */
    private static void twentyFirst() {
        String[] twenties = {"open" + " or bare".repeat(19), "open" + " and bare".repeat(19),
            "not open" + " or not bare".repeat(9), "(open)" + " and(bare)".repeat(9), "not(open)" + " or not(bare)".repeat(5)
            + " or open or ring"};
        String[] more = {"open", "bare", "torn", "ring", "with ann", "near nobody", "loop<3", "chain ?", "number", "not open",
            "(open)", "("};
        for (String twenty : twenties) {
            says(city(), twenty, 20, bitsOf(twenty));
            for (String one : more) {
                Probe.faultAt(city(), Probe.SENTENCE, twenty + " or !" + one, 4);
                Probe.faultAt(city(), Probe.SENTENCE, twenty + " and\n!" + one, 4);
            }
            Probe.faultAt(city(), Probe.SENTENCE, twenty + " or !or", 1);
            Probe.faultAt(city(), Probe.SENTENCE, twenty + " and !ann", 1);
            Probe.faultAt(city(), Probe.SENTENCE, twenty + " and !", 1);
            Probe.faultAt(city(), Probe.SENTENCE, twenty + "!)", 1);
        }
        Probe.faultAt(city(), Probe.SENTENCE, "(open" + " or bare".repeat(18) + ") or !open", 4);
        Probe.faultAt(city(), Probe.SENTENCE, "(open" + " or bare".repeat(18) + " or !open)", 4);
        Probe.faultAt(city(), Probe.SENTENCE, "open or ".repeat(19) + "not !open", 4);
        Probe.faultAt(city(), Probe.SENTENCE, "open or ".repeat(19) + "(!open)", 4);
    }

    /** Of the twenties above: ann, cid on a RING; bob, eve OPEN; dot, eve BARE (and dot's button in bob's loop). */
    private static int bitsOf(String twenty) {
        int open = 2 + 16;
        int bare = 8 + 16;
        if (twenty.startsWith("open or")) {
            return open | bare;
        }
        if (twenty.startsWith("open and") || twenty.startsWith("(open)")) {
            return open & bare;
        }
        if (twenty.startsWith("not open")) {
            return 31 & ~(open & bare);
        }
        return 31 & ~(open & bare) | open | 5;
    }

    /** Eight within one another, by not, by brackets, by both, at the first ONE and at a later one. */
    private static void within() {
        for (int deep = 1; deep <= 8; deep++) {
            HookedCity x = city();
            int bits = deep % 2 == 1 ? 2 + 16 : 1 + 4 + 8;
            says(x, "not ".repeat(deep - 1) + "open", deep, bits);
            says(x, "(".repeat(deep - 1) + "open" + ")".repeat(deep - 1), deep, 2 + 16);
            says(x, "torn or " + "(".repeat(deep - 1) + "open" + ")".repeat(deep - 1) + " or torn", deep + 2, 2 + 16);
            says(x, "open and " + "not ".repeat(deep - 1) + "loop<99", deep + 1, deep % 2 == 1 ? 2 + 16 : 0);
        }
        HookedCity x = city();
        says(x, "not(not(not(not open)))", 8, 18);
        says(x, "(not(not(not(ring))))", 8, 26);
        // those beside one another are not within one another
        says(x, "(((((((open or bare and ring)))))))", 10, 18);
        says(x, "(((((((open)))))))and(((((((open)))))))", 16, 18);
        says(x, "not not not not not not not open and not not not not not not not open", 16, 13);
        says(x, "((((((open)))))and open)or torn", 9, 18);
    }

    private static void ninthWithin() {
        Probe.faultAt(city(), Probe.SENTENCE, "not ".repeat(8) + "!open", 4);
        Probe.faultAt(city(), Probe.SENTENCE, "not ".repeat(8) + "!not open", 4);
        Probe.faultAt(city(), Probe.SENTENCE, "not ".repeat(8) + "!(open)", 4);
        Probe.faultAt(city(), Probe.SENTENCE, "(".repeat(8) + "!open" + ")".repeat(8), 4);
        Probe.faultAt(city(), Probe.SENTENCE, "(".repeat(8) + "!(", 4);
        Probe.faultAt(city(), Probe.SENTENCE, "(".repeat(8) + "!with nobody", 4);
        Probe.faultAt(city(), Probe.SENTENCE, "(".repeat(8) + "!)", 1);
        Probe.faultAt(city(), Probe.SENTENCE, "(".repeat(8) + "!ann", 1);
        Probe.faultAt(city(), Probe.SENTENCE, "(".repeat(8) + "!", 1);
        Probe.faultAt(city(), Probe.SENTENCE, "not(not(not(not(!open", 4);
        Probe.faultAt(city(), Probe.SENTENCE, "open and not(not(not(not(!open", 4);
        Probe.faultAt(city(), Probe.SENTENCE, "(((((((open or (!ring))))))))", 4);
        Probe.faultAt(city(), Probe.SENTENCE, "(((((((open and not !ring)))))))", 4);
        Probe.faultAt(city(), Probe.SENTENCE, "(".repeat(8) + "!" + "(".repeat(100), 4);
    }

    /** said: how many by NONE, the k-th from 0, NONE beyond. */
    private static void kthOne() {
        HookedCity x = city();
        says(x, "number=0 or number=2 or number=4", 3, 21);
        for (int k : Probe.beyond(3)) {
            if (k != Probe.NONE) {
                Probe.due("none such: " + k, x.said(k), Probe.NONE);
            }
        }
        says(x, "torn", 1, 0);
        Probe.due("of none", x.said(0), Probe.NONE);
        Probe.due("how many: none", x.said(Probe.NONE), 0);
    }

    private static void nobody() {
        HookedCity x = new HookedCity();
        for (int k : Probe.beyond(0)) {
            Probe.due("no SENTENCE", x.said(k), Probe.NONE);
        }
        Probe.due("a FAULT", Probe.sentence(x, "with ann"), -1 - 5);
        Probe.due("not told", x.fault(), 3);
        Probe.due("still no SENTENCE", x.said(Probe.NONE), Probe.NONE);
        says(x, "not torn or not not torn", 5, 0);
        says(x, "number<999", 1, 0);
    }

    private static void wholeCity() {
        StringBuilder text = new StringBuilder();
        for (int p = 0; p < 9; p++) {
            text.append("person ").append((char) ('a' + p)).append(" bone bone ").append(p + 1).append(';');
        }
        HookedCity x = Probe.of(text.toString());
        says(x, "not torn", 2, 511);
        says(x, "loop=9", 1, 256);
        says(x, "loop<2", 1, 1);
        says(x, "number=8 or with a", 2, 257);
        says(x, "with i and not open or with i", 4, 256);
    }

    /** With a FAULT the SENTENCE stays; a new CITY has none; the tape is empty then. */
    private static void stays() {
        HookedCity x = city();
        says(x, "ring", 1, 5);
        String[] faults = {"", "open or", "with nobody", "(open", "open" + " or open".repeat(20), "((((((((open",
            " ".repeat(201)};
        for (String text : faults) {
            Probe.due("a FAULT", Probe.sentence(x, text) < 0, true);
            Probe.due("the tape is empty", x.count(4), 0);
            Probe.due("it stays", x.said(Probe.NONE), 2);
            Probe.due("it stays", x.said(1), 2);
        }
        Probe.due("a CITY with a FAULT", Probe.city(x, "?"), -1);
        Probe.due("it stays", x.said(1), 2);
        Probe.due("a CITY", Probe.city(x, CITY), 12);
        Probe.due("no SENTENCE", x.said(Probe.NONE), Probe.NONE);
        Probe.due("no SENTENCE", x.said(0), Probe.NONE);
    }

    /** It is said of PERSONS as they are now, also behind acts and behind what was undone. */
    private static void rings() {
        HookedCity x = city();
        says(x, "ring", 1, 5);
        x.loose(0, 0);
        Probe.due("no RING", x.said(Probe.NONE), 0);
        x.undo();
        Probe.due("a RING again", x.said(Probe.NONE), 2);
        says(x, "torn", 1, 0);
        x.days(1);
        Probe.due("bob's loop", x.said(0), 1);
        Probe.due("a SENTENCE is no act", x.undo(), 0);
        Probe.due("none now", x.said(0), Probe.NONE);
        Probe.due("nothing more", x.undo(), Probe.NONE);
        Probe.due("the SENTENCE stays", x.said(Probe.NONE), 0);
    }
}
