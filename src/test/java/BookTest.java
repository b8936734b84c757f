/** Promises 32 and 33: book, told; the FAULTS of a BOOK. */
public final class BookTest {
    private static final String CITY = "person ann bone bone 2;person bob bone bone 1;person cid bone pearl 3;"
        + "person dot pearl bone 4;maid may 2;maid sue 1;street ann bob;street bob cid;street cid dot;street ann cid;"
        + "spare 1;year 2;july 1;";

    public static void main(String[] args) {
        judged();
        lived();
        whys();
        lastDays();
        empty();
        faults();
        lengths();
        tooMany();
        otherLives();
        Probe.finish();
    }

    private static void told(HookedCity x, int why, int lines, int day, int open) {
        int[] due = {Probe.NONE, why, lines, day, open, Probe.NONE};
        for (int what = -1; what <= 4; what++) {
            Probe.due("told " + what, x.told(what), due[what + 1]);
        }
    }

    private static void judged() {
        HookedCity x = Probe.of(CITY);
        Probe.due("ahead of any", x.told(0), Probe.NONE);
        String before = Probe.all(x);
        Probe.due("none WRONG", Probe.book(x, "may buttons ann bob;\nday 2 ; sue looses ann;", 0), 2);
        told(x, 12, 2, 2, 15);
        Probe.due("none WRONG", Probe.book(x, "may buttons ann bob;may buttons bob ann;", 0), Probe.NONE);
        told(x, 0, 2, 0, 12);
        Probe.due("the tape is empty", x.count(4), 0);
        Probe.due("all stays as it is", Probe.all(x).equals(before), true);
        Probe.due("nothing to undo", x.undo(), Probe.NONE);
    }

    private static void lived() {
        HookedCity x = Probe.of(CITY);
        Probe.due("WRONG", Probe.book(x, "may buttons ann bob;may buttons bob cid;day 1;mend bob;mend cid;", 1), 4);
        told(x, 22, 4, 1, 13);
        Probe.due("DAY", x.now(0), 1);
        Probe.due("lived as far", x.person(1, 4), 2);
        Probe.due("PERISHED and mended", x.person(1, 3), 1);
        Probe.due("PERISHED", x.now(6), 1);
        Probe.due("buttoned", x.now(5), 2);
        Probe.due("no spare", x.now(4), 0);
        Probe.due("undone whole", x.undo(), 0);
        Probe.due("DAY", x.now(0), 0);
        Probe.due("OPEN", x.now(1), 15);
        Probe.due("what was told stays", x.told(1), 4);
        Probe.due("none WRONG", Probe.book(x, "day 60;", 1), Probe.NONE);
        told(x, 0, 1, 60, 15);
        Probe.due("DAY", x.now(0), 60);
    }

    private static void why(String text, int why, int line) {
        HookedCity x = Probe.of(CITY);
        Probe.due("WRONG in " + text, Probe.book(x, text, 0), why == 0 ? Probe.NONE : line);
        Probe.due("why of " + text, x.told(0), why);
        Probe.due("LINES of " + text, x.told(1), line);
        Probe.due("no FAULT in " + text, x.fault(), 0);
    }

    private static void whys() {
        why("sue buttons ann bob;sue buttons ann ann;", 1, 1);
        why("may buttons ann ann;", 2, 0);
        why("may buttons ann dot;", 3, 0);
        why("may buttons cid bob;", 4, 0);
        why("may buttons ann bob;may buttons ann cid;", 5, 1);
        why("may buttons ann bob;may buttons dot cid;day 2;may buttons bob cid;", 6, 3);
        why("may buttons ann bob;day 1;may buttons ann bob;", 7, 2);
        why("sue buttons ann bob;sue looses ann;", 11, 1);
        why("may looses ann;", 12, 0);
        why("mend ann;", 21, 0);
        why("may buttons ann bob;may buttons bob ann;day 1;mend bob;mend ann;", 22, 4);
        why("may buttons ann bob;may looses ann;sue buttons bob ann;day 060;mend ann;", 0, 5);
    }

    private static void lastDays() {
        HookedCity x = Probe.of(CITY);
        for (int i = 0; i < 5; i++) {
            x.days(60);
        }
        Probe.due("too long", Probe.book(x, "day 60;day 41;", 1), 1);
        told(x, 31, 1, 360, 15);
        Probe.due("none of it went by", x.now(0), 360);
        Probe.due("just as long", Probe.book(x, "day 40;may buttons ann bob;day 1;", 1), 2);
        told(x, 31, 2, 400, 14);
    }

    private static void empty() {
        HookedCity x = Probe.of(CITY);
        Probe.due("no LINES", Probe.book(x, "", 0), Probe.NONE);
        told(x, 0, 0, 0, 15);
        Probe.due("nothing to undo", x.undo(), Probe.NONE);
        Probe.due("blanks", Probe.book(x, " \n", 1), Probe.NONE);
        Probe.due("a BOOK that was lived", x.undo(), 0);
        Probe.due("in an empty CITY", Probe.book(new HookedCity(), "day 3;", 1), Probe.NONE);
    }

    /** The FAULT is at the sign !, which is not part of the text. */
    private static void badAt(String marked, int kind) {
        int place = marked.indexOf('!');
        String text = marked.substring(0, place) + marked.substring(place + 1);
        HookedCity x = Probe.of(CITY);
        Probe.book(x, "may buttons ann bob;mend ann;", 0);
        String before = Probe.all(x);
        Probe.due("book of " + text, Probe.book(x, text, 1), -2 - place);
        Probe.due("fault of " + text, x.fault(), kind);
        Probe.due("the tape is empty then", x.count(4), 0);
        Probe.due("nothing is lived", Probe.all(x).equals(before), true);
        told(x, 21, 1, 0, 14);
        Probe.due("nothing to undo", x.undo(), Probe.NONE);
    }

    private static void faults() {
        badAt("!;", 1);
        badAt("!person;", 1);
        badAt("!buttons ann bob;", 1);
        badAt("!3;", 1);
        badAt("!?", 1);
        badAt("may !ann;", 1);
        badAt("may !mend ann;", 1);
        badAt("may buttons !;", 1);
        badAt("may buttons !3;", 1);
        badAt("may buttons !open;", 1);
        badAt("may buttons ann!;", 1);
        badAt("may buttons ann bob !cid;", 1);
        badAt("may buttons ann bob!", 1);
        badAt("may looses ann !bob;", 1);
        badAt("day !ann;", 1);
        badAt("day 3 !3;", 1);
        badAt("day !0003;", 1);
        badAt("day !0;", 2);
        badAt("day 60;day !61;", 2);
        badAt("!ann buttons bob cid;", 3);
        badAt("!eve buttons ann bob;", 3);
        badAt("may buttons !eve ann;", 3);
        badAt("may buttons ann !may;", 3);
        badAt("may looses !sue;", 3);
        badAt("mend !may;", 3);
        badAt("day 1;mend !eve;", 3);
    }

    private static void lengths() {
        HookedCity x = Probe.of(CITY);
        Probe.due("400 bytes", Probe.book(x, "day 3;" + " ".repeat(394), 0), Probe.NONE);
        badAt("day 3;" + " ".repeat(394) + "! ", 1);
        badAt(" ".repeat(395) + "day !61;", 2);
        badAt(" ".repeat(396) + "day !61;", 1);
        badAt(" ".repeat(398) + "da!y 61;", 1);
        badAt(" ".repeat(399) + "!days 3;", 3);
    }

    private static void tooMany() {
        HookedCity x = Probe.of(CITY);
        String forty = "day 1;".repeat(40);
        Probe.due("forty", Probe.book(x, forty, 0), Probe.NONE);
        Probe.due("LINES", x.told(1), 40);
        String[] more = {"day 1;", "mend", "may ?", "eve looses ann;", "ann", "person", "3", "?"};
        int[] kinds = {4, 4, 4, 3, 3, 1, 1, 1};
        for (int i = 0; i < more.length; i++) {
            Probe.due("a 41st: " + more[i], Probe.book(x, forty + " " + more[i], 0), -2 - 241);
            Probe.due("its FAULT: " + more[i], x.fault(), kinds[i]);
        }
    }

    private static void otherLives() {
        HookedCity x = Probe.of(CITY);
        Probe.due("a FAULT", Probe.book(x, "day 0;", 0), -2 - 4);
        int[] others = {-1, 2, Integer.MAX_VALUE, Integer.MIN_VALUE};
        Probe.tape(x, "day 3;");
        for (int lives : others) {
            Probe.due("another lives", x.book(lives), -1000);
            Probe.due("the tape stays", x.count(4), 6);
            Probe.due("the FAULT is left", x.fault(), 2);
            Probe.due("nothing is told", x.told(0), Probe.NONE);
        }
        Probe.due("book", x.book(1), Probe.NONE);
        Probe.due("no FAULT", x.fault(), 0);
    }
}
