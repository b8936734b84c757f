import java.util.NoSuchElementException;

/** What the tests share: texts put on the tape, answers compared with those that are due. */
final class Probe {
    static final int NONE = HookedCity.NONE;
    static final int THROWS = 1 << 20;
    static final int CITY = 0;
    static final int BOOK = 1;
    static final int SENTENCE = 2;

    private static int checks = 0;
    private static int wrong = 0;

    private Probe() {
    }

    static void due(String what, long got, long want) {
        checks++;
        if (got != want) {
            wrong++;
            if (wrong <= 50) {
                System.out.println(what + " answered " + got + ", due is " + want);
            }
        }
    }

    static void due(String what, boolean got, boolean want) {
        due(what, got ? 1 : 0, want ? 1 : 0);
    }

    static void finish() {
        System.out.println(checks + " checks, " + wrong + " wrong");
        if (checks == 0 || wrong != 0) {
            System.exit(1);
        }
    }

    static boolean anyWrong() {
        return wrong != 0;
    }

    /** The bytes come behind what the tape has already. */
    static void tape(HookedCity x, String text) {
        int[] bytes = new int[text.length()];
        for (int i = 0; i < bytes.length; i++) {
            bytes[i] = text.charAt(i);
        }
        tape(x, bytes);
    }

    static void tape(HookedCity x, int... bytes) {
        for (int at = 0; at < bytes.length; at += 20) {
            int before = x.count(4);
            int[] five = new int[5];
            for (int i = 0; i < 20; i++) {
                int b = at + i < bytes.length ? bytes[at + i] : 0;
                five[i / 4] |= (b & 255) << (24 - 8 * (i % 4));
            }
            due("feed", x.feed(five[0], five[1], five[2], five[3], five[4]), before + 20);
            int part = Math.min(20, bytes.length - at);
            due("end", x.end(before + part), true);
        }
    }

    static int city(HookedCity x, String text) {
        tape(x, text);
        return x.city();
    }

    static HookedCity of(String text) {
        HookedCity x = new HookedCity();
        int lines = city(x, text);
        if (lines < 0) {
            due("a city that was meant to be right: " + text, lines, 0);
        }
        return x;
    }

    static int book(HookedCity x, String text, int lives) {
        tape(x, text);
        return x.book(lives);
    }

    static int sentence(HookedCity x, String text) {
        tape(x, text);
        return x.sentence();
    }

    static int person(HookedCity x, int p, int what) {
        try {
            return x.person(p, what);
        } catch (NoSuchElementException e) {
            return THROWS;
        }
    }

    static String card(HookedCity x, int p) {
        int length = x.card(p);
        StringBuilder text = new StringBuilder();
        for (int i = 0; i < length; i++) {
            text.append((char) x.byteAt(i));
        }
        due("byteAt behind the card", x.byteAt(length), NONE);
        return text.toString();
    }

    /** The place of the FAULT of a text, by the one of three readers; NONE without one. */
    static int placeOf(HookedCity x, int reader, String text) {
        tape(x, text);
        if (reader == BOOK) {
            int wrong = x.book(0);
            return wrong < NONE ? -2 - wrong : NONE;
        }
        int many = reader == CITY ? x.city() : x.sentence();
        return many < 0 ? -1 - many : NONE;
    }

    static void fine(HookedCity x, int reader, String text) {
        due("no place of a FAULT: " + text, placeOf(x, reader, text), NONE);
        due("no FAULT: " + text, x.fault(), 0);
    }

    static void fault(HookedCity x, int reader, String text, int kind, int place) {
        due("place of the FAULT: " + text, placeOf(x, reader, text), place);
        due("kind of the FAULT: " + text, x.fault(), kind);
    }

    /** The FAULT is at the sign !, which is not part of the text. */
    static void faultAt(HookedCity x, int reader, String marked, int kind) {
        int place = marked.indexOf('!');
        fault(x, reader, marked.substring(0, place) + marked.substring(place + 1), kind, place);
    }

    /** Numbers that none of n has: next to both ends, and where a shift of bits or a cast would come round again. */
    static int[] beyond(int n) {
        return new int[] {-1, -2, n, n + 1, 32, 33, 64, 255, 256, -31, -32, -64, 1 << 16, 1 << 30, Integer.MAX_VALUE,
            Integer.MAX_VALUE - 1, Integer.MIN_VALUE, Integer.MIN_VALUE + 1};
    }

    /** What calls told last and the tape, with all that is so; asked for without a change. */
    static String everything(HookedCity x) {
        StringBuilder text = new StringBuilder(all(x));
        for (int i = -1; i < 24; i++) {
            text.append(' ').append(x.byteAt(i)).append(' ').append(x.wayAt(i)).append(' ').append(x.matched(i));
            text.append(' ').append(x.told(i)).append(' ').append(x.said(i));
        }
        text.append(' ').append(x.fault()).append(' ').append(x.count(4)).append(' ').append(x.takes());
        text.append(' ').append(x.slipLeast()).append(' ').append(x.turn());
        return text.toString();
    }

    /** All that is so, as one text, to see whether two moments are alike. */
    static String all(HookedCity x) {
        StringBuilder text = new StringBuilder();
        for (int what = 0; what <= 7; what++) {
            text.append(x.now(what)).append(' ');
        }
        for (int what = 0; what <= 3; what++) {
            text.append(x.count(what)).append(' ');
        }
        for (int p = 0; p < x.count(0); p++) {
            for (int what = 0; what <= 7; what++) {
                text.append(x.person(p, what)).append(' ');
            }
            text.append(x.near(p)).append(' ');
        }
        for (int m = 0; m < x.count(1); m++) {
            text.append(x.maid(m, 0)).append(' ').append(x.maid(m, 1)).append(' ');
        }
        text.append(x.said(NONE));
        return text.toString();
    }
}
