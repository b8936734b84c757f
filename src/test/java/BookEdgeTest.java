/** Edges of a BOOK: its LINES and NUMBERS, the LINE that is WRONG, DAYS that are left, what is told of it. */
public final class BookEdgeTest {
    private static final String CITY = "person ann bone bone 2;person bob bone bone 1;person cid bone pearl 3;"
        + "person dot pearl bone 4;maid may 9;maid sue 1;street ann bob;street bob cid;street cid dot;street ann cid;"
        + "spare 1;july 0;";
    private static final String WORDS = "person maid street done spare year july pearl bone brass glass buttons looses "
        + "mend day or and not open bare torn ring with near loop chain number";

    public static void main(String[] args) {
        numbers();
        firstTokens();
        deeds();
        names();
        ends();
        howManyLines();
        fortyFirst();
        wrongLines();
        faultBehindWrong();
        daysLeft();
        toldOfLatest();
        livedAndUndone();
        otherLives();
        emptyCity();
        Probe.finish();
    }

    private static HookedCity city() {
        return Probe.of(CITY);
    }

    private static void told(HookedCity x, int why, int lines, int day, int open) {
        Probe.due("why", x.told(0), why);
        Probe.due("LINES that are not", x.told(1), lines);
        Probe.due("the DAY then", x.told(2), day);
        Probe.due("who is OPEN then", x.told(3), open);
    }

    /** 'day' N: 1 to 60. */
    private static void numbers() {
        HookedCity x = city();
        for (int n = 0; n <= 999; n++) {
            if (n < 1 || n > 60) {
                Probe.fault(x, Probe.BOOK, "day " + n + ";", 2, 4);
            } else {
                x = city();
                Probe.fine(x, Probe.BOOK, "day " + n + ";");
                told(x, 0, 1, n, 15);
            }
            x = n % 50 == 49 ? city() : x;
        }
    }

    /** A LINE begins with a MAID's NAME, 'mend' or 'day'. */
    private static void firstTokens() {
        for (String word : WORDS.split(" ")) {
            if (!word.equals("mend") && !word.equals("day")) {
                Probe.faultAt(city(), Probe.BOOK, "!" + word + " ann;", 1);
                Probe.faultAt(city(), Probe.BOOK, "day 1;!" + word + " ann;", 1);
            }
        }
        String[] none = {"3", ";", "(", "<", "?", "May", "abcdefgh", "may1"};
        for (String token : none) {
            Probe.faultAt(city(), Probe.BOOK, "!" + token + " looses ann;", 1);
        }
        Probe.faultAt(city(), Probe.BOOK, "!ann looses ann;", 3);
        Probe.faultAt(city(), Probe.BOOK, "!kit looses ann;", 3);
        Probe.faultAt(city(), Probe.BOOK, "!ma looses ann;", 3);
        Probe.faultAt(city(), Probe.BOOK, "day 1;!;", 1);
    }

    /** Behind a MAID come 'buttons' or 'looses' alone. */
    private static void deeds() {
        for (String word : WORDS.split(" ")) {
            if (!word.equals("buttons") && !word.equals("looses")) {
                Probe.faultAt(city(), Probe.BOOK, "may !" + word + " ann bob;", 1);
            }
        }
        String[] none = {"ann", "may", "kit", "3", ";", "button", "loose", "(", "?"};
        for (String token : none) {
            Probe.faultAt(city(), Probe.BOOK, "may !" + token + " ann bob;", 1);
        }
    }

    /** A PERSON's NAME is told, of a PERSON, and no WORD of the document. */
    private static void names() {
        String[] heads = {"may buttons ", "may buttons ann ", "may looses ", "mend "};
        for (String head : heads) {
            for (String word : WORDS.split(" ")) {
                Probe.faultAt(city(), Probe.BOOK, head + "!" + word + ";", 1);
            }
            Probe.faultAt(city(), Probe.BOOK, head + "!;", 1);
            Probe.faultAt(city(), Probe.BOOK, head + "!3;", 1);
            Probe.faultAt(city(), Probe.BOOK, head + "!", 1);
            Probe.faultAt(city(), Probe.BOOK, head + "!abcdefgh;", 1);
            Probe.faultAt(city(), Probe.BOOK, head + "!may;", 3);
            Probe.faultAt(city(), Probe.BOOK, head + "!sue;", 3);
            Probe.faultAt(city(), Probe.BOOK, head + "!eve;", 3);
            Probe.faultAt(city(), Probe.BOOK, head + "!an;", 3);
            Probe.faultAt(city(), Probe.BOOK, head + "!anna;", 3);
        }
    }

    private static void ends() {
        Probe.faultAt(city(), Probe.BOOK, "may buttons ann bob !cid;", 1);
        Probe.faultAt(city(), Probe.BOOK, "may looses ann !bob;", 1);
        Probe.faultAt(city(), Probe.BOOK, "mend ann !bob;", 1);
        Probe.faultAt(city(), Probe.BOOK, "day 1 !1;", 1);
        Probe.faultAt(city(), Probe.BOOK, "day !;", 1);
        Probe.faultAt(city(), Probe.BOOK, "day !day;", 1);
        Probe.faultAt(city(), Probe.BOOK, "day 1;day 1!", 1);
        // alike ones are no FAULT of a BOOK: that LINE is WRONG
        HookedCity x = city();
        Probe.due("alike", Probe.book(x, "may buttons ann ann;", 0), 0);
        told(x, 2, 0, 0, 15);
    }

    private static void howManyLines() {
        for (int many = 0; many <= 40; many++) {
            HookedCity x = city();
            Probe.due(many + " LINES", Probe.book(x, "day 3;".repeat(many), many % 2), Probe.NONE);
            told(x, 0, many, 3 * many, 15);
            Probe.due("lived or judged", x.now(0), many % 2 == 1 ? 3 * many : 0);
        }
    }

    /** A 41st LINE: FAULT 4 at its first WORD, if that can come there; nothing is lived of the forty. */
    private static void fortyFirst() {
        String forty = "day 1;".repeat(40);
        String[] many = {"!day 1;", " !mend ann;", "\n!may looses ann;", "!day", "!day 99;", "!sue ?", "!mend eve;"};
        for (String line : many) {
            HookedCity x = city();
            Probe.faultAt(x, Probe.BOOK, forty + line, 4);
            Probe.due("nothing is told", x.told(1), Probe.NONE);
        }
        Probe.faultAt(city(), Probe.BOOK, forty + "!ann looses bob;", 3);
        Probe.faultAt(city(), Probe.BOOK, forty + "!eve looses bob;", 3);
        Probe.faultAt(city(), Probe.BOOK, forty + "!;", 1);
        Probe.faultAt(city(), Probe.BOOK, forty + "!buttons ann bob;", 1);
        Probe.faultAt(city(), Probe.BOOK, "day !0;" + forty, 2);
        HookedCity x = city();
        Probe.due("a 41st", Probe.book(x, forty + "day 1;", 1), -2 - 240);
        Probe.due("nothing is lived", x.now(0), 0);
        Probe.due("nothing can be undone", x.undo(), Probe.NONE);
    }

    /** The first LINE that is WRONG, from 0 to the last of forty; those behind it are not lived. */
    private static void wrongLines() {
        for (int wrong = 0; wrong < 40; wrong++) {
            for (int lives = 0; lives <= 1; lives++) {
                HookedCity x = city();
                String text = "day 1;".repeat(wrong) + "mend ann;" + "day 1;".repeat(39 - wrong);
                Probe.due("WRONG", Probe.book(x, text, lives), wrong);
                told(x, 21, wrong, wrong, 15);
                Probe.due("DAYS lived", x.now(0), lives * wrong);
                Probe.due("no FAULT", x.fault(), 0);
            }
        }
        HookedCity x = city();
        Probe.due("two are WRONG: the first", Probe.book(x, "day 2;may looses ann;mend ann;", 1), 1);
        told(x, 12, 1, 2, 15);
    }

    /** A FAULT anywhere: no LINE is judged, none is lived. */
    private static void faultBehindWrong() {
        HookedCity x = city();
        Probe.due("a BOOK", Probe.book(x, "day 5;", 0), Probe.NONE);
        Probe.due("FAULT", Probe.book(x, "may looses ann;day 0;", 1), -2 - 19);
        told(x, 0, 1, 5, 15);
        Probe.due("FAULT", Probe.book(x, "day 3;may buttons ann bob;mend may;", 1), -2 - 31);
        told(x, 0, 1, 5, 15);
        Probe.due("nothing is lived", x.now(0), 0);
        Probe.due("nothing is lived", x.now(1), 15);
        Probe.due("nothing can be undone", x.undo(), Probe.NONE);
        Probe.due("FAULT at the first byte", Probe.book(x, "?", 1), -2);
    }

    /** 31: fewer DAYS are left than the LINE has; just as many are enough. */
    private static void daysLeft() {
        for (int left = 0; left <= 61; left++) {
            HookedCity x = city();
            int ahead = 400 - left;
            for (; ahead > 60; ahead -= 60) {
                x.days(60);
            }
            x.days(ahead);
            Probe.due("so many are left", x.now(0), 400 - left);
            int[] asked = {1, left - 1, left, left + 1, 60};
            for (int n : asked) {
                if (n >= 1 && n <= 60) {
                    Probe.due("day " + n + " of " + left, Probe.book(x, "day " + n + ";", 0), n > left ? 0 : Probe.NONE);
                    told(x, n > left ? 31 : 0, n > left ? 0 : 1, n > left ? 400 - left : 400 - left + n, 15);
                }
            }
        }
        HookedCity x = city();
        String whole = "day 60;".repeat(6) + "day 40;";
        Probe.due("all DAYS", Probe.book(x, whole + "may buttons ann bob;sue looses ann;", 1), Probe.NONE);
        told(x, 0, 9, 400, 15);
        Probe.due("one more", Probe.book(x, "may buttons ann bob;day 1;", 1), 1);
        told(x, 31, 1, 400, 14);
        Probe.due("the LINE ahead of it is lived", x.person(0, 4), 1);
    }

    private static void toldOfLatest() {
        HookedCity x = new HookedCity();
        for (int what = -1; what <= 4; what++) {
            Probe.due("ahead of any", x.told(what), Probe.NONE);
        }
        Probe.due("a FAULT is none", Probe.book(x, "day 0;", 0), -2 - 4);
        Probe.due("still ahead of any", x.told(0), Probe.NONE);
        Probe.due("-1000 is none", x.book(7), -1000);
        Probe.due("still ahead of any", x.told(1), Probe.NONE);
        x = city();
        x.days(7);
        Probe.due("judged", Probe.book(x, "may buttons ann bob;day 2;", 0), Probe.NONE);
        for (int what : Probe.beyond(4)) {
            Probe.due("another what", x.told(what), Probe.NONE);
        }
        told(x, 0, 2, 9, 14);
        x.days(3);
        x.undo();
        x.undo();
        told(x, 0, 2, 9, 14);
        Probe.due("a FAULT leaves it", Probe.book(x, "day 61;", 1), -2 - 4);
        Probe.due("-1000 leaves it", x.book(-1), -1000);
        told(x, 0, 2, 9, 14);
        Probe.due("another CITY leaves it", Probe.city(x, "person ann bone bone 1;"), 1);
        told(x, 0, 2, 9, 14);
        Probe.due("an empty BOOK", Probe.book(x, "", 0), Probe.NONE);
        told(x, 0, 0, 0, 1);
    }

    private static void livedAndUndone() {
        HookedCity x = city();
        String before = Probe.all(x);
        Probe.due("lived", Probe.book(x, "may buttons ann bob;day 2;may looses ann;", 1), Probe.NONE);
        Probe.due("undone whole, none more", x.undo(), 0);
        Probe.due("as it was", Probe.all(x).equals(before), true);
        Probe.due("no more", x.undo(), Probe.NONE);
        for (int i = 0; i < 9; i++) {
            Probe.due("lived", Probe.book(x, "day 1;", 1), Probe.NONE);
            Probe.due("judged", Probe.book(x, "day 1;", 0), Probe.NONE);
        }
        for (int i = 7; i >= 0; i--) {
            Probe.due("eight are kept", x.undo(), i);
        }
        Probe.due("no ninth", x.undo(), Probe.NONE);
        Probe.due("the first DAY stays", x.now(0), 1);
    }

    private static void otherLives() {
        HookedCity x = city();
        Probe.due("a FAULT of kind 2", Probe.book(x, "day 0;", 1), -2 - 4);
        Probe.tape(x, "day 9;");
        String before = Probe.everything(x);
        int[] others = {-1, 2, 3, 256, 257, Integer.MIN_VALUE, Integer.MIN_VALUE + 1, Integer.MAX_VALUE};
        for (int lives : others) {
            Probe.due("another lives", x.book(lives), -1000);
            Probe.due("all stays, tape and FAULT too", Probe.everything(x).equals(before), true);
        }
        Probe.due("the tape is a BOOK still", x.book(1), Probe.NONE);
        Probe.due("lived", x.now(0), 9);
        Probe.due("no FAULT now", x.fault(), 0);
        Probe.due("an empty tape is a BOOK of no LINES", x.book(0), Probe.NONE);
        Probe.due("another lives comes ahead of an empty tape", x.book(2), -1000);
    }

    private static void emptyCity() {
        HookedCity x = new HookedCity();
        Probe.due("days alone", Probe.book(x, "day 60;day 60;", 1), Probe.NONE);
        told(x, 0, 2, 120, 0);
        Probe.due("no MAIDS", Probe.book(x, "may looses ann;", 1), -2);
        Probe.due("not told", x.fault(), 3);
        Probe.due("no PERSONS", Probe.book(x, "mend ann;", 1), -2 - 5);
        Probe.due("not told", x.fault(), 3);
        Probe.city(x, "maid may 1;");
        Probe.due("a MAID without PERSONS", Probe.book(x, "may looses ann;", 1), -2 - 11);
        Probe.due("not told", x.fault(), 3);
    }
}
