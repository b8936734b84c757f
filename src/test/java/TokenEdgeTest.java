/** Edges of 'Terms': TOKENS, blanks, bytes of a text, its end and the FAULTS ahead of it, in all three texts. */
public final class TokenEdgeTest {
    private static final String CITY = "person ann bone bone 2;person bob bone bone 1;maid may 2;";
    private static final int[] READERS = {Probe.CITY, Probe.BOOK, Probe.SENTENCE};
    private static final int[] MOST_BYTES = {900, 400, 200};
    private static final String[] RIGHT = {"spare 3;", "day 60;", "loop<3"};

    public static void main(String[] args) {
        for (int sign = 0; sign < 256; sign++) {
            ahead((char) sign);
            behindCity((char) sign);
            behindBook((char) sign);
            behindSentence((char) sign);
            between((char) sign);
        }
        words();
        numbers();
        runs();
        prefixes();
        mostBytes();
        faultsAheadOfMostBytes();
        manyMore();
        signs();
        Probe.finish();
    }

    private static boolean isBlank(char sign) {
        return sign == 32 || sign == 10;
    }

    private static boolean isDigit(char sign) {
        return sign >= 48 && sign <= 57;
    }

    private static boolean isLetter(char sign) {
        return sign >= 97 && sign <= 122;
    }

    /** Blanks are 32 and 10 alone; any other sign ahead of the first TOKEN is a FAULT at it. */
    private static void ahead(char sign) {
        for (int reader : READERS) {
            HookedCity x = Probe.of(CITY);
            String text = sign + RIGHT[reader];
            if (isBlank(sign)) {
                Probe.fine(x, reader, text);
            } else if (sign == '(' && reader == Probe.SENTENCE) {
                Probe.fault(x, reader, text, 1, text.length());
            } else if (reader == Probe.BOOK && isLetter(sign)) {
                Probe.fault(x, reader, text, 3, 0);
            } else {
                Probe.fault(x, reader, text, 1, 0);
            }
        }
    }

    private static void behindCity(char sign) {
        HookedCity x = new HookedCity();
        String text = "spare 3" + sign + ";";
        if (isBlank(sign)) {
            Probe.fine(x, Probe.CITY, text);
            Probe.due("the NUMBER ended there", x.now(4), 3);
        } else if (isDigit(sign)) {
            Probe.fault(x, Probe.CITY, text, 2, 6);
        } else if (isLetter(sign)) {
            Probe.fault(x, Probe.CITY, text, 1, 6);
        } else {
            Probe.fault(x, Probe.CITY, text, 1, sign == ';' ? 8 : 7);
        }
    }

    private static void behindBook(char sign) {
        HookedCity x = Probe.of(CITY);
        String text = "day 6" + sign + ";";
        if (isBlank(sign) || sign == '0') {
            Probe.fine(x, Probe.BOOK, text);
            Probe.due("so many DAYS", x.told(2), sign == '0' ? 60 : 6);
        } else if (isDigit(sign)) {
            Probe.fault(x, Probe.BOOK, text, 2, 4);
        } else if (isLetter(sign)) {
            Probe.fault(x, Probe.BOOK, text, 1, 4);
        } else {
            Probe.fault(x, Probe.BOOK, text, 1, sign == ';' ? 6 : 5);
        }
    }

    private static void behindSentence(char sign) {
        HookedCity x = Probe.of(CITY);
        String text = "loop<3" + sign;
        if (isBlank(sign) || isDigit(sign)) {
            Probe.fine(x, Probe.SENTENCE, text);
        } else {
            Probe.fault(x, Probe.SENTENCE, text, 1, isLetter(sign) ? 5 : 6);
        }
    }

    /** Two WORDS need a blank between them; no other sign parts them. */
    private static void between(char sign) {
        HookedCity x = new HookedCity();
        String text = "person" + sign + "ann bone bone 1;";
        if (isBlank(sign)) {
            Probe.fine(x, Probe.CITY, text);
        } else {
            Probe.fault(x, Probe.CITY, text, 1, isLetter(sign) || isDigit(sign) ? 0 : 6);
        }
    }

    private static void words() {
        HookedCity x = new HookedCity();
        String letters = "zyxwvut";
        for (int many = 1; many <= 7; many++) {
            String name = letters.substring(0, many);
            Probe.fine(x, Probe.CITY, "person " + name + " bone bone 1;maid a" + name.substring(1) + " 1;");
            Probe.due("its NAME's letters", x.card(0), many + " open bare".length());
        }
        Probe.faultAt(x, Probe.CITY, "person !zyxwvuts bone bone 1;", 1);
        Probe.faultAt(x, Probe.CITY, "maid !zyxwvuts 1;", 1);
        Probe.faultAt(x, Probe.CITY, "!personsx ann bone bone 1;", 1);
        Probe.faultAt(x, Probe.CITY, "person !" + "a".repeat(60) + " bone bone 1;", 1);
        // two NAMES of seven letters that differ in one letter, the first or the last, are two
        Probe.fine(x, Probe.CITY, "person zyxwvut bone bone 1;person ayxwvut bone bone 1;person zyxwvua bone bone 1;");
        // eight letters do not stand for the last or the first seven of them
        Probe.faultAt(x, Probe.CITY, "person ann bone bone 1;person bob bone bone 1;street ann !aaaaabob;", 1);
        Probe.faultAt(x, Probe.CITY, "!aaperson ann bone bone 1;", 1);
    }

    private static void numbers() {
        HookedCity x = new HookedCity();
        String[] right = {"7", "07", "007"};
        for (String number : right) {
            Probe.fine(x, Probe.CITY, "spare " + number + ";");
            Probe.due("seven", x.now(4), 7);
        }
        String[] none = {"0007", "1234", "0000", "00000000000000000007", "4294967303"};
        for (String number : none) {
            Probe.faultAt(x, Probe.CITY, "spare !" + number + ";", 1);
            Probe.faultAt(x, Probe.BOOK, "day !" + number + ";", 1);
            Probe.faultAt(x, Probe.SENTENCE, "chain=!" + number, 1);
        }
        Probe.faultAt(x, Probe.CITY, "spare !999;", 2);
        Probe.faultAt(x, Probe.CITY, "spare !021;", 2);
        Probe.faultAt(x, Probe.CITY, "spare !-1;", 1);
    }

    /** Letters and digits in one run are no TOKEN, in whatever order. */
    private static void runs() {
        HookedCity x = Probe.of(CITY);
        Probe.faultAt(x, Probe.CITY, "person !a1 bone bone 1;", 1);
        Probe.faultAt(x, Probe.CITY, "person !1a bone bone 1;", 1);
        Probe.faultAt(x, Probe.CITY, "person ann bone !bone1;", 1);
        Probe.faultAt(x, Probe.CITY, "!spare3;", 1);
        Probe.faultAt(x, Probe.BOOK, "!day3;", 1);
        Probe.faultAt(x, Probe.BOOK, "!3day;", 1);
        Probe.faultAt(x, Probe.BOOK, "mend !ann1;", 1);
        Probe.faultAt(x, Probe.SENTENCE, "loop<!3or open", 1);
        Probe.faultAt(x, Probe.SENTENCE, "!loop3", 1);
        Probe.fine(x, Probe.SENTENCE, "loop<3 or(open)and not(bare)or number=0");
    }

    /** Each beginning of a LINE: the end is a FAULT at how many bytes there are, if no TOKEN ahead is one. */
    private static void prefixes() {
        String line = "person ann bone glass 7;";
        for (int many = 1; many < line.length(); many++) {
            int place = many;
            if (many <= 5) {
                place = 0;
            } else if (many > 11 && many < 15) {
                place = 11;
            } else if (many > 16 && many < 21) {
                place = 16;
            }
            HookedCity x = new HookedCity();
            Probe.fault(x, Probe.CITY, line.substring(0, many), 1, place);
            boolean cutWord = place != many;
            Probe.fault(x, Probe.CITY, line.substring(0, many) + "\n  ", 1, cutWord ? place : many + 3);
        }
        HookedCity x = Probe.of(CITY);
        Probe.faultAt(x, Probe.BOOK, "may buttons ann bob!", 1);
        Probe.faultAt(x, Probe.BOOK, "may buttons ann !", 1);
        Probe.faultAt(x, Probe.BOOK, "may buttons!", 1);
        Probe.faultAt(x, Probe.BOOK, "may!", 1);
        Probe.faultAt(x, Probe.BOOK, "may looses \n!", 1);
        Probe.faultAt(x, Probe.BOOK, "day!", 1);
        Probe.faultAt(x, Probe.BOOK, "day 60!", 1);
        Probe.faultAt(x, Probe.BOOK, "mend!", 1);
        Probe.faultAt(x, Probe.SENTENCE, "!", 1);
        Probe.faultAt(x, Probe.SENTENCE, "not!", 1);
        Probe.faultAt(x, Probe.SENTENCE, "(open !", 1);
        Probe.faultAt(x, Probe.SENTENCE, "with !", 1);
        Probe.faultAt(x, Probe.SENTENCE, "loop!", 1);
        Probe.faultAt(x, Probe.SENTENCE, "loop =!", 1);
    }

    private static String blanks(int many) {
        return " ".repeat(many);
    }

    /** Just as many bytes as there may be are no FAULT; one more is, at the most told, wherever the blanks are. */
    private static void mostBytes() {
        for (int reader : READERS) {
            int most = MOST_BYTES[reader];
            String right = RIGHT[reader];
            int room = most - right.length();
            int gap = right.indexOf(reader == Probe.SENTENCE ? '<' : ' ');
            String head = right.substring(0, gap);
            String tail = right.substring(gap);
            HookedCity x = Probe.of(CITY);
            Probe.fine(x, reader, right + blanks(room));
            Probe.fine(x, reader, blanks(room) + right);
            Probe.fine(x, reader, head + "\n".repeat(room) + tail);
            Probe.fine(x, reader, right + blanks(room - 1));
            Probe.fault(x, reader, right + blanks(room + 1), 1, most);
            Probe.fault(x, reader, blanks(room + 1) + right, 1, most);
            Probe.fault(x, reader, head + "\n".repeat(room + 1) + tail, 1, most);
            Probe.fault(x, reader, right + blanks(940 - right.length()), 1, most);
        }
        HookedCity x = Probe.of(CITY);
        Probe.fine(x, Probe.CITY, blanks(900));
        Probe.fault(x, Probe.CITY, blanks(901), 1, 900);
        Probe.fault(x, Probe.CITY, blanks(940), 1, 900);
        Probe.fine(x, Probe.BOOK, blanks(400));
        Probe.fault(x, Probe.BOOK, blanks(401), 1, 400);
        Probe.fault(x, Probe.SENTENCE, blanks(200), 1, 200);
        Probe.fault(x, Probe.SENTENCE, blanks(201), 1, 200);
        Probe.fault(x, Probe.SENTENCE, blanks(199), 1, 199);
    }

    /** A TOKEN that begins one byte ahead of the most is read whole and has its own FAULT; at the most it has not. */
    private static void faultsAheadOfMostBytes() {
        String nine = "";
        for (char c = 'a'; c < 'j'; c++) {
            nine += "person " + c + " bone bone 1;";
        }
        String[] ahead = {"", "spare ", "spare 3;", "street a ", nine, "person "};
        String[] token = {"?", "99", "spare", "nobody", "person", "abcdefgh"};
        int[] kinds = {1, 2, 3, 3, 4, 1};
        for (int i = 0; i < ahead.length; i++) {
            String head = i == 3 ? nine + ahead[i] : ahead[i];
            lastToken(Probe.CITY, head, token[i], kinds[i]);
        }
        String forty = "day 1;".repeat(40);
        lastToken(Probe.BOOK, "day ", "61", 2);
        lastToken(Probe.BOOK, "day ", "1234", 1);
        lastToken(Probe.BOOK, "mend ", "may", 3);
        lastToken(Probe.BOOK, "", "nobody", 3);
        lastToken(Probe.BOOK, forty, "mend", 4);
        String twenty = "open" + " or open".repeat(19) + " or ";
        lastToken(Probe.SENTENCE, "with ", "nobody", 3);
        lastToken(Probe.SENTENCE, "loop<", "9999", 1);
        lastToken(Probe.SENTENCE, "not ", "opened", 1);
        lastToken(Probe.SENTENCE, twenty, "bare", 4);
        lastToken(Probe.SENTENCE, "(((((((( ", "bare", 4);
    }

    private static void lastToken(int reader, String head, String token, int kind) {
        int most = MOST_BYTES[reader];
        HookedCity x = Probe.of(CITY);
        int room = most - 1 - head.length();
        Probe.fault(x, reader, head + blanks(room) + token + ";", kind, most - 1);
        Probe.fault(x, reader, head + blanks(room + 1) + token + ";", 1, most);
        Probe.fault(x, reader, head + blanks(room + 2) + token + ";", 1, most);
    }

    /** A right TOKEN that begins ahead of the most and goes on beyond it is no FAULT itself: the bytes are. */
    private static void manyMore() {
        HookedCity x = Probe.of(CITY);
        Probe.fault(x, Probe.CITY, blanks(899) + "spare 3;", 1, 900);
        Probe.fault(x, Probe.CITY, "spare " + blanks(893) + "20;", 1, 900);
        Probe.fault(x, Probe.BOOK, "day " + blanks(395) + "60;", 1, 400);
        Probe.fault(x, Probe.SENTENCE, blanks(199) + "open", 1, 200);
        Probe.fault(x, Probe.SENTENCE, blanks(196) + "open;", 1, 200);
        Probe.fault(x, Probe.SENTENCE, blanks(195) + "open;", 1, 199);
        Probe.fault(x, Probe.CITY, "?" + blanks(939), 1, 0);
        Probe.fault(x, Probe.CITY, "year 1;" + blanks(933), 2, 5);
    }

    /** The signs of one text can't come in another one. */
    private static void signs() {
        HookedCity x = Probe.of(CITY);
        for (char sign : "<=>()".toCharArray()) {
            Probe.fault(x, Probe.CITY, "spare" + sign + "3;", 1, 5);
            Probe.fault(x, Probe.CITY, "spare 3" + sign, 1, 7);
        }
        x = Probe.of(CITY);
        for (char sign : "<=>()".toCharArray()) {
            Probe.fault(x, Probe.BOOK, "day" + sign + "3;", 1, 3);
            Probe.fault(x, Probe.BOOK, "may looses ann" + sign, 1, 14);
        }
        Probe.faultAt(x, Probe.SENTENCE, "loop!(3)", 1);
        Probe.faultAt(x, Probe.SENTENCE, "loop<!>3", 1);
        Probe.faultAt(x, Probe.SENTENCE, "open!;", 1);
        Probe.faultAt(x, Probe.SENTENCE, "!<3", 1);
        Probe.faultAt(x, Probe.SENTENCE, "open!.", 1);
        Probe.faultAt(x, Probe.CITY, "spare 3;!.", 1);
        Probe.faultAt(x, Probe.BOOK, "day 3!.", 1);
    }
}
