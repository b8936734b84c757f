/** Promises 34 and 35: sentence, said; the FAULTS of a SENTENCE. */
public final class SentenceTest {
    private static final String CITY = "person ann bone bone 3;person bob bone bone 1;person cid bone bone 2;"
        + "person dot bone bone 9;person eve bone bone 1;maid may 9;street ann bob;street bob cid;street dot eve;"
        + "done ann cid;done cid ann;done dot bob;";

    public static void main(String[] args) {
        words();
        joins();
        said();
        stays();
        faults();
        tooMany();
        lengths();
        Probe.finish();
    }

    private static void says(HookedCity x, String text, int ones, int bits) {
        Probe.due("sentence " + text, Probe.sentence(x, text), ones);
        Probe.due("fault of " + text, x.fault(), 0);
        Probe.due("how many: " + text, x.said(Probe.NONE), Integer.bitCount(bits));
        int k = 0;
        for (int p = 0; p < 9; p++) {
            if ((bits >> p & 1) != 0) {
                Probe.due(k + "-th of " + text, x.said(k), p);
                k++;
            }
        }
        Probe.due("none such of " + text, x.said(k), Probe.NONE);
        Probe.due("none such of " + text, x.said(-2), Probe.NONE);
    }

    private static void words() {
        HookedCity x = Probe.of(CITY);
        x.days(1);
        // bob's loop has PERISHED, ann and cid are on a RING
        says(x, "open", 1, 2 + 8 + 16);
        says(x, "bare", 1, 2 + 8 + 16);
        says(x, "torn", 1, 2);
        says(x, "ring", 1, 1 + 4);
        says(x, "with ann", 1, 1 + 4);
        says(x, "with eve", 1, 16);
        says(x, "near bob", 1, 1 + 4);
        says(x, "near eve", 1, 8);
        says(x, "loop<2", 1, 2 + 4 + 16);
        says(x, "loop = 2", 1, 1);
        says(x, "loop>1", 1, 1 + 8);
        says(x, "chain=1", 1, 1 + 4);
        says(x, "chain<1", 1, 2 + 8 + 16);
        says(x, "chain > 1", 1, 0);
        says(x, "number>2", 1, 8 + 16);
        says(x, "number=0", 1, 1);
        says(x, "number<999", 1, 31);
        says(x, "number<000", 1, 0);
    }

    private static void joins() {
        HookedCity x = Probe.of(CITY);
        says(x, "not open", 2, 1 + 4 + 8);
        says(x, "not not open", 3, 2 + 16);
        says(x, "open or ring and number=0", 3, 1 + 2 + 16);
        says(x, "number=0 and ring or open", 3, 1 + 2 + 16);
        says(x, "( open or ring ) and number = 0", 4, 1);
        says(x, "not open and number>2", 3, 8);
        says(x, "not(open and number>2)", 4, 15);
        says(x, "not (open) and not bare", 5, 1 + 4);
        says(x, "((open))", 3, 2 + 16);
        says(x, "number=0 or number=2 or number=4", 3, 21);
        says(x, "number>0 and number>1 and number>2", 3, 24);
        says(x, "number=0 or number=1 and number=2 or number=3", 4, 9);
        says(x, "(number=0 or number=1)and(number=1 or number=3)", 6, 2);
        says(x, "not not not not not not not open", 8, 13);
        says(x, "(((((((open)))))))", 8, 18);
    }

    private static void said() {
        HookedCity x = Probe.of(CITY);
        Probe.due("no SENTENCE", x.said(Probe.NONE), Probe.NONE);
        Probe.due("no SENTENCE", x.said(0), Probe.NONE);
        says(x, "torn", 1, 0);
        x.days(1);
        Probe.due("of PERSONS as they are now", x.said(0), 1);
        Probe.due("one", x.said(Probe.NONE), 1);
        x.undo();
        Probe.due("as they are now", x.said(Probe.NONE), 0);
        x = new HookedCity();
        Probe.due("of nobody", Probe.sentence(x, "not open"), 2);
        Probe.due("nobody", x.said(Probe.NONE), 0);
        Probe.due("nobody", x.said(0), Probe.NONE);
    }

    private static void stays() {
        HookedCity x = Probe.of(CITY);
        Probe.due("sentence", Probe.sentence(x, "ring"), 1);
        Probe.due("a FAULT", Probe.sentence(x, "ring or"), -1 - 7);
        Probe.due("the tape is empty then", x.count(4), 0);
        Probe.due("it stays", x.said(Probe.NONE), 2);
        Probe.city(x, CITY);
        Probe.due("a new CITY has none", x.said(Probe.NONE), Probe.NONE);
    }

    /** The FAULT is at the sign !, which is not part of the text. */
    private static void badAt(String marked, int kind) {
        int place = marked.indexOf('!');
        String text = marked.substring(0, place) + marked.substring(place + 1);
        HookedCity x = Probe.of(CITY);
        Probe.due("sentence " + text, Probe.sentence(x, text), -1 - place);
        Probe.due("fault of " + text, x.fault(), kind);
        Probe.due("no SENTENCE", x.said(Probe.NONE), Probe.NONE);
    }

    private static void faults() {
        badAt("!", 1);
        badAt(" \n!", 1);
        badAt("!;", 1);
        badAt("!ann", 1);
        badAt("!3", 1);
        badAt("!and", 1);
        badAt("!)", 1);
        badAt("!person", 1);
        badAt("open!;", 1);
        badAt("open !open", 1);
        badAt("open!)", 1);
        badAt("open and !or", 1);
        badAt("open or!", 1);
        badAt("not!", 1);
        badAt("not !and", 1);
        badAt("(!)", 1);
        badAt("(open!", 1);
        badAt("(open or bare !ring)", 1);
        badAt("with!", 1);
        badAt("with !3", 1);
        badAt("with !open", 1);
        badAt("with !eva", 3);
        badAt("with !may", 3);
        badAt("near !may or near ann", 3);
        badAt("loop !3", 1);
        badAt("loop !;3", 1);
        badAt("loop<!=3", 1);
        badAt("loop<!ann", 1);
        badAt("loop<!1000", 1);
        badAt("loop<!3x", 1);
        badAt("chain!", 1);
        badAt("number>!", 1);
        badAt("open !& bare", 1);
        badAt("!opened", 1);
    }

    private static void tooMany() {
        HookedCity x = Probe.of(CITY);
        String twenty = "open" + " or bare".repeat(19);
        says(x, twenty, 20, 2 + 8 + 16);
        badAt(twenty + " or !open", 4);
        badAt(twenty + " or !not ?", 4);
        badAt(twenty + " and !(", 4);
        badAt(twenty + " or !or", 1);
        badAt(twenty + " or !", 1);
        badAt(twenty + " or !ann", 1);
        says(x, "(open and not bare or ring)" + " or (ring)".repeat(7), 19, 1 + 2 + 4);
        badAt("not not not not not not not not !open", 4);
        badAt("((((((((!open))))))))", 4);
        badAt("((((((((!(", 4);
        badAt("((((((((!)", 1);
        badAt("not(not(not(not(!not open))))", 4);
        says(x, "not(not(not(not open)))", 8, 18);
        says(x, "(((((((open or ring)))))))", 9, 23);
        says(x, "(((((((open))))))) and (((((((open)))))))", 16, 18);
    }

    private static void lengths() {
        HookedCity x = Probe.of(CITY);
        says(x, " ".repeat(196) + "open", 1, 18);
        says(x, "open" + "\n".repeat(196), 1, 18);
        badAt("open" + " ".repeat(196) + "! ", 1);
        badAt(" ".repeat(196) + "open! ", 1);
        badAt(" ".repeat(197) + "!ope", 1);
        badAt(" ".repeat(199) + "!opened", 1);
        badAt(" ".repeat(200) + "!open", 1);
        badAt(" ".repeat(200) + "! open", 1);
        badAt(" ".repeat(198) + "op!en", 1);
        badAt(" ".repeat(195) + "with !eva", 1);
    }
}
