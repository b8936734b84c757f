import java.util.NoSuchElementException;

/** What the tests share: texts put on the tape, answers compared with those that are due. */
final class Probe {
    static final int NONE = HookedCity.NONE;
    static final int THROWS = 1 << 20;

    private static int checks = 0;
    private static int wrong = 0;

    private Probe() {
    }

    static void due(String what, long got, long want) {
        checks++;
        if (got != want) {
            wrong++;
            if (wrong <= 50) {
                System.out.println(what + " answered " + got + ", due is " + want);
            }
        }
    }

    static void due(String what, boolean got, boolean want) {
        due(what, got ? 1 : 0, want ? 1 : 0);
    }

    static void finish() {
        System.out.println(checks + " checks, " + wrong + " wrong");
        if (checks == 0 || wrong != 0) {
            System.exit(1);
        }
    }

    static boolean anyWrong() {
        return wrong != 0;
    }

    /** The bytes come behind what the tape has already. */
    static void tape(HookedCity x, String text) {
        int[] bytes = new int[text.length()];
        for (int i = 0; i < bytes.length; i++) {
            bytes[i] = text.charAt(i);
        }
        tape(x, bytes);
    }

    static void tape(HookedCity x, int... bytes) {
        for (int at = 0; at < bytes.length; at += 20) {
            int before = x.count(4);
            int[] five = new int[5];
            for (int i = 0; i < 20; i++) {
                int b = at + i < bytes.length ? bytes[at + i] : 0;
                five[i / 4] |= (b & 255) << (24 - 8 * (i % 4));
            }
            due("feed", x.feed(five[0], five[1], five[2], five[3], five[4]), before + 20);
            int part = Math.min(20, bytes.length - at);
            due("end", x.end(before + part), true);
        }
    }

    static int city(HookedCity x, String text) {
        tape(x, text);
        return x.city();
    }

    static HookedCity of(String text) {
        HookedCity x = new HookedCity();
        int lines = city(x, text);
        if (lines < 0) {
            due("a city that was meant to be right: " + text, lines, 0);
        }
        return x;
    }

    static int book(HookedCity x, String text, int lives) {
        tape(x, text);
        return x.book(lives);
    }

    static int sentence(HookedCity x, String text) {
        tape(x, text);
        return x.sentence();
    }

    static int person(HookedCity x, int p, int what) {
        try {
            return x.person(p, what);
        } catch (NoSuchElementException e) {
            return THROWS;
        }
    }

    static String card(HookedCity x, int p) {
        int length = x.card(p);
        StringBuilder text = new StringBuilder();
        for (int i = 0; i < length; i++) {
            text.append((char) x.byteAt(i));
        }
        due("byteAt behind the card", x.byteAt(length), NONE);
        return text.toString();
    }

    /** All that is so, as one text, to see whether two moments are alike. */
    static String all(HookedCity x) {
        StringBuilder text = new StringBuilder();
        for (int what = 0; what <= 7; what++) {
            text.append(x.now(what)).append(' ');
        }
        for (int what = 0; what <= 3; what++) {
            text.append(x.count(what)).append(' ');
        }
        for (int p = 0; p < x.count(0); p++) {
            for (int what = 0; what <= 7; what++) {
                text.append(x.person(p, what)).append(' ');
            }
            text.append(x.near(p)).append(' ');
        }
        for (int m = 0; m < x.count(1); m++) {
            text.append(x.maid(m, 0)).append(' ').append(x.maid(m, 1)).append(' ');
        }
        text.append(x.said(NONE));
        return text.toString();
    }
}
