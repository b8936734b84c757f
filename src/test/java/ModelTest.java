import java.util.ArrayList;
import java.util.List;
import java.util.NoSuchElementException;
import java.util.Random;

/** Runs of drawn calls, every answer compared with the model's; nothing but what is told may be thrown. */
public final class ModelTest {
    private static final String[] NAMES = {"ann", "bob", "cid", "dot", "eve", "fay", "gus", "hal", "ida", "jim",
        "may", "sue", "zoe", "kit", "abcdefg"};
    private static final String[] KINDS = {"pearl", "bone", "brass", "glass"};
    private static final String[] ODD = {"person", "maid", "street", "done", "spare", "year", "july", "pearl", "or",
        "and", "not", "open", "with", "loop", "(", ")", "<", "=", ">", ";", "abcdefgh", "a1", "0", "7", "60", "61",
        "1234", "999", ".", "A", "\t", "buttons", "looses", "mend", "day", "nobody", "ann", "may", "number"};

    private final Random random;
    private final HookedCity x = new HookedCity();
    private final Model y = new Model();
    private final StringBuilder log = new StringBuilder();
    private final int style;

    private ModelTest(long seed) {
        random = new Random(seed);
        style = random.nextInt(4);
    }

    public static void main(String[] args) {
        int runs = args.length > 1 ? Integer.parseInt(args[1]) : 1500;
        for (int seed = 0; seed < runs && !Probe.anyWrong(); seed++) {
            ModelTest run = new ModelTest(seed);
            run.go();
            if (Probe.anyWrong()) {
                System.out.println("seed " + seed + ":\n" + run.log);
            }
        }
        Probe.finish();
    }

    private void go() {
        int calls = 0;
        while (calls < 512 && !Probe.anyWrong()) {
            calls += act();
            if (random.nextInt(12) == 0) {
                compareAll();
            }
        }
        compareAll();
    }

    private void same(String call, int got, int want) {
        log.append(call).append(" = ").append(got).append('\n');
        Probe.due(call, got, want);
    }

    private int upTo(int n) {
        return random.nextInt(n);
    }

    private String any(String... of) {
        return of[upTo(of.length)];
    }

    private int some() {
        int many = Math.max(1, y.count(0));
        return upTo(30) == 0 ? upTo(14) - 3 : upTo(many);
    }

    private int someMaid() {
        int many = Math.max(1, y.count(1));
        return upTo(30) == 0 ? upTo(6) - 2 : upTo(many);
    }

    private int feedAll(String text) {
        int calls = 0;
        int before = x.count(4);
        for (int at = 0; at < text.length(); at += 20) {
            int[] v = new int[5];
            for (int i = 0; i < 20; i++) {
                int b = at + i < text.length() ? text.charAt(at + i) : upTo(256);
                v[i / 4] |= b << 24 - i % 4 * 8;
            }
            same("feed", x.feed(v[0], v[1], v[2], v[3], v[4]), y.feed(v[0], v[1], v[2], v[3], v[4]));
            calls++;
        }
        int n = Math.min(before + text.length(), 940);
        same("end " + n, x.end(n) ? 1 : 0, y.end(n) ? 1 : 0);
        log.append("text ").append(text).append('\n');
        return calls + 1;
    }

    private int act() {
        int kind = upTo(100);
        if (y.count(0) == 0 && upTo(3) == 0 || kind < 2) {
            return newCity();
        }
        if (kind < 40) {
            return deed();
        }
        if (kind < 52) {
            return newBook();
        }
        if (kind < 62) {
            return newSentence();
        }
        if (kind < 70) {
            return newSlips();
        }
        if (kind < 76) {
            return images();
        }
        return ask();
    }

    private int deed() {
        int n = upTo(3) == 0 ? upTo(64) - 1 : 1 + upTo(3);
        int seed = random.nextInt();
        int m = someMaid();
        int p = some();
        int q = some();
        switch (upTo(style == 0 ? 14 : 11)) {
            case 0: case 1: case 2: case 3:
                same("button " + m + p + q, x.button(m, p, q), y.button(m, p, q));
                break;
            case 4:
                same("loose " + m + p, x.loose(m, p), y.loose(m, p));
                break;
            case 5:
                same("mend " + p, x.mend(p), y.mend(p));
                break;
            case 6: case 7:
                same("undo", x.undo(), y.undo());
                break;
            case 8:
                same("drawn " + n + " " + seed, x.drawn(n, seed), y.drawn(n, seed));
                break;
            default:
                same("days " + n, x.days(n), y.days(n));
        }
        return 1;
    }

    private int ask() {
        int p = some();
        int q = some();
        int n = upTo(10) == 0 ? upTo(40) - 3 : 1 + upTo(5);
        int seed = random.nextInt();
        switch (upTo(6)) {
            case 0:
                same("match", x.match(), y.match());
                break;
            case 1:
                same("way " + p + q, x.way(p, q), y.way(p, q));
                break;
            case 2:
                same("card " + p, x.card(p), y.card(p));
                break;
            case 3:
                same("odds " + p + n + " " + seed, x.odds(p, n, seed), y.odds(p, n, seed));
                break;
            case 4:
                int cut = upTo(30) - 2;
                same("end " + cut, x.end(cut) ? 1 : 0, y.end(cut) ? 1 : 0);
                break;
            default:
                same("takes", x.takes(), y.takes());
        }
        return 1;
    }

    private int images() {
        int k = upTo(12) == 0 ? upTo(6) - 2 : upTo(2);
        if (upTo(2) == 0) {
            same("image " + k, x.image(k) ? 1 : 0, y.image(k) ? 1 : 0);
        } else {
            same("restore " + k, x.restore(k) ? 1 : 0, y.restore(k) ? 1 : 0);
        }
        return 1;
    }

    private String spoil(String text, int oneIn) {
        if (upTo(oneIn) != 0) {
            return text;
        }
        int at = upTo(text.length() + 1);
        int to = Math.min(text.length(), at + upTo(6));
        switch (upTo(4)) {
            case 0:
                return text.substring(0, at) + text.substring(to);
            case 1:
                return text.substring(0, at) + (char) upTo(256) + text.substring(at);
            case 2:
                return text.substring(0, at);
            default:
                return text.substring(0, at) + " " + any(ODD) + " " + text.substring(to);
        }
    }

    private String spoilTokens(List<String> tokens, int oneIn) {
        StringBuilder text = new StringBuilder();
        boolean spoilt = upTo(oneIn) == 0 && !tokens.isEmpty();
        int at = spoilt ? upTo(tokens.size()) : -1;
        for (int i = 0; i < tokens.size(); i++) {
            String token = i == at ? any(ODD) : tokens.get(i);
            boolean apart = text.length() > 0 && isRun(text.charAt(text.length() - 1)) && isRun(token.charAt(0));
            text.append(apart ? any(" ", "\n", " ") : upTo(20) == 0 ? any(" ", "\n", "  ") : "").append(token);
        }
        return text.toString();
    }

    private static boolean isRun(char c) {
        return c >= 'a' && c <= 'z' || c >= '0' && c <= '9';
    }

    private static List<String> tokens(String text) {
        List<String> all = new ArrayList<>();
        for (String part : text.replaceAll("([;<=>()])", " $1 ").trim().split("[ \n]+")) {
            if (!part.isEmpty()) {
                all.add(part);
            }
        }
        return all;
    }

    private int newCity() {
        String text = cityText();
        int wish = upTo(12);
        text = spoil(spoilTokens(tokens(text), wish == 0 ? 40 : 5), 8);
        if (wish == 0) {
            text = text + " ".repeat(Math.max(0, 885 + upTo(22) - text.length())) + any("", ";", "spare 3;", "x");
        }
        if (wish == 1) {
            int room = Math.max(0, 880 + upTo(30) - text.length());
            text = " ".repeat(room) + text;
        }
        text = text.length() > 940 ? text.substring(0, 940) : text;
        int calls = feedAll(text);
        same("city", x.city(), y.city());
        same("fault", x.fault(), y.fault());
        return calls + 2;
    }

    private String cityText() {
        StringBuilder text = new StringBuilder();
        int persons = upTo(15) == 0 ? 10 : 1 + upTo(9);
        int maids = upTo(12) == 0 ? upTo(2) * 4 : 1 + upTo(3);
        int kinds = 1 + upTo(3);
        int[] loops = new int[persons];
        int[] buttons = new int[persons];
        for (int p = 0; p < persons; p++) {
            loops[p] = upTo(kinds);
            buttons[p] = upTo(kinds);
            text.append("person ").append(NAMES[p]).append(' ').append(KINDS[loops[p]]).append(' ')
                .append(KINDS[buttons[p]]).append(' ').append(strength()).append(';');
        }
        for (int m = 0; m < maids; m++) {
            int hooks = upTo(40) == 0 ? upTo(2) * 10 : 1 + upTo(4);
            text.append("maid ").append(NAMES[10 + m]).append(' ').append(hooks).append(';');
        }
        int dense = upTo(3);
        for (int p = 0; p < persons; p++) {
            for (int q = p + 1; q < persons; q++) {
                if (upTo(5) < 2 + dense && text.length() < 780) {
                    text.append("street ").append(NAMES[upTo(2) == 0 ? p : q]).append(' ');
                    text.append(NAMES[text.toString().endsWith(NAMES[p] + " ") ? q : p]).append(';');
                }
            }
        }
        int bad = upTo(25);
        int from = 0;
        int into = 0;
        for (int i = 0; i < 6; i++) {
            int p = upTo(persons);
            int q = upTo(persons);
            boolean fine = p != q && loops[q] == buttons[p] && (from >> p & 1) == 0 && (into >> q & 1) == 0;
            if (fine || bad == 0) {
                text.append("done ").append(NAMES[p]).append(' ').append(NAMES[q]).append(';');
                from |= 1 << p;
                into |= 1 << q;
            }
        }
        text.append(upTo(2) == 0 ? "spare " + upTo(21) + ";" : "");
        text.append(upTo(2) == 0 ? "year " + (2 + upTo(upTo(2) == 0 ? 4 : 59)) + ";" : "");
        text.append(upTo(2) == 0 ? "july " + upTo(upTo(2) == 0 ? 4 : 61) + ";" : "");
        return text.toString();
    }

    private String strength() {
        return upTo(90) == 0 ? any("0", "10", "007") : String.valueOf(1 + upTo(upTo(2) == 0 ? 2 : 9));
    }

    private String personName() {
        return NAMES[upTo(Math.max(1, y.count(0)))];
    }

    private String maidName() {
        return NAMES[10 + upTo(Math.max(1, y.count(1)))];
    }

    private int newBook() {
        StringBuilder text = new StringBuilder();
        int lines = upTo(15) == 0 ? 36 + upTo(8) : upTo(9);
        boolean small = lines > 30;
        for (int i = 0; i < lines; i++) {
            switch (small ? upTo(10) == 0 ? 3 : 4 : upTo(5)) {
                case 0: case 1:
                    text.append(maidName()).append(" buttons ").append(personName()).append(' ').append(personName());
                    break;
                case 2:
                    text.append(maidName()).append(" looses ").append(personName());
                    break;
                case 3:
                    text.append("mend ").append(personName());
                    break;
                default:
                    text.append("day ").append(upTo(40) == 0 ? upTo(2) * 61 : 1 + upTo(upTo(6) == 0 ? 60 : 3));
            }
            text.append(';');
        }
        String whole = spoil(spoilTokens(tokens(text.toString()), 5), 10);
        whole = whole.length() > 480 ? whole.substring(0, 480) : whole;
        whole = upTo(15) == 0 ? " ".repeat(360 + upTo(45)) + whole : whole;
        int calls = feedAll(whole + (upTo(30) == 0 ? " ".repeat(upTo(402)) : ""));
        int lives = upTo(20) == 0 ? upTo(5) - 2 : upTo(2);
        same("book " + lives, x.book(lives), y.book(lives));
        same("fault", x.fault(), y.fault());
        return calls + 2;
    }

    private String one(int depth) {
        int kind = upTo(depth > 9 ? 8 : 12);
        switch (kind) {
            case 0: case 1: case 2: case 3:
                return any("open", "bare", "torn", "ring");
            case 4:
                return "with " + personName();
            case 5:
                return "near " + personName();
            case 6: case 7:
                return any("loop", "chain", "number") + any("<", "=", ">") + upTo(upTo(8) == 0 ? 1000 : 6);
            case 8:
                return "not " + one(depth + 1);
            default:
                return "(" + cond(depth + 1) + ")";
        }
    }

    private String cond(int depth) {
        StringBuilder text = new StringBuilder(one(depth));
        int more = upTo(upTo(4) == 0 ? 8 : 3);
        for (int i = 0; i < more; i++) {
            text.append(' ').append(any("and", "or")).append(' ').append(one(depth));
        }
        return text.toString();
    }

    private int newSentence() {
        String text = cond(0);
        if (upTo(10) == 0) {
            String inner = any("open", "ring", text) + any("", ")".repeat(upTo(10)));
            text = any("not ", "(", "not(").repeat(3 + upTo(6)) + inner;
        }
        String whole = spoil(spoilTokens(tokens(text), 5), 10);
        whole = whole.length() > 260 ? whole.substring(0, 260) : whole;
        whole = upTo(20) == 0 ? " ".repeat(180 + upTo(25)) + whole : whole;
        int calls = feedAll(whole);
        same("sentence", x.sentence(), y.sentence());
        same("fault", x.fault(), y.fault());
        return calls + 2;
    }

    private int newSlips() {
        int n = y.count(0);
        int s = upTo(n + 1);
        int pairs = upTo(9);
        StringBuilder text = new StringBuilder();
        for (int i = 0; i < pairs; i++) {
            int p = upTo(20) == 0 ? upTo(12) : n == 0 ? 0 : upTo(n);
            int q = p < s ? p + 1 : p + 2;
            text.append((char) p).append((char) (upTo(15) == 0 ? upTo(256) : q >= n ? 255 : q));
        }
        text.append(upTo(20) == 0 ? "a" : upTo(20) == 0 ? "abababababababab" : "");
        int calls = feedAll(text.toString());
        same("slips", x.slips(), y.slips());
        return calls + 1;
    }

    private int personOf(boolean real, int p, int what) {
        try {
            return real ? x.person(p, what) : y.person(p, what);
        } catch (NoSuchElementException e) {
            return Probe.THROWS;
        }
    }

    private void compareAll() {
        for (int p = -1; p <= 10; p++) {
            for (int what = -1; what <= 8; what++) {
                same("person " + p + " " + what, personOf(true, p, what), personOf(false, p, what));
            }
            same("with " + p, x.with(p), y.with(p));
            same("matched " + p, x.matched(p), y.matched(p));
            same("lasts " + p, x.lasts(p), y.lasts(p));
            same("near " + p, x.near(p), y.near(p));
            same("could " + p, x.could(p), y.could(p));
            same("said " + p, x.said(p), y.said(p));
            same("wayAt " + p, x.wayAt(p), y.wayAt(p));
            same("now " + p, x.now(p), y.now(p));
            same("told " + p, x.told(p), y.told(p));
            same("count " + p, x.count(p), y.count(p));
            same("maid " + p + " 0", x.maid(p, 0), y.maid(p, 0));
            same("maid " + p + " 1", x.maid(p, 1), y.maid(p, 1));
        }
        for (int i = -1; i <= 26; i++) {
            same("byteAt " + i, x.byteAt(i), y.byteAt(i));
        }
        same("said -2", x.said(-2), y.said(-2));
        same("maid 0 2", x.maid(0, 2), y.maid(0, 2));
        same("maid 0 -1", x.maid(0, -1), y.maid(0, -1));
        same("parts", x.parts(), y.parts());
        same("quiet", x.quiet(), y.quiet());
        same("takes", x.takes(), y.takes());
        same("slipLeast", x.slipLeast(), y.slipLeast());
        same("turn", x.turn(), y.turn());
        same("fault", x.fault(), y.fault());
        log.setLength(Math.min(log.length(), 200000));
    }
}
