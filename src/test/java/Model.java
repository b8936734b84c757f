import java.util.ArrayDeque;
import java.util.ArrayList;
import java.util.Arrays;
import java.util.HashMap;
import java.util.HashSet;
import java.util.LinkedHashMap;
import java.util.List;
import java.util.Map;
import java.util.NoSuchElementException;
import java.util.Set;
import java.util.TreeMap;
import java.util.TreeSet;

/**
 * The document once more, written for plainness with the whole library and by other means than the class
 * (texts, maps, every possibility tried), so that runs of calls can be compared.
 */
final class Model {
    private static final Set<String> WORDS = new HashSet<>(Arrays.asList(
        ("person maid street done spare year july pearl bone brass glass buttons looses mend day or and not open bare "
            + "torn ring with near loop chain number").split(" ")));
    private static final List<String> KINDS = Arrays.asList("pearl", "bone", "brass", "glass");

    private static final class Fault extends RuntimeException {
        private static final long serialVersionUID = 1L;
        final int kind;
        final int place;

        Fault(int kind, int place) {
            this.kind = kind;
            this.place = place;
        }
    }

    /** A TOKEN: its text, or null where there is none, and where it stands. */
    private record Token(String text, int place, boolean isEnd) {
        boolean isWord() {
            return text != null && text.matches("[a-z]{1,7}");
        }

        boolean isName() {
            return isWord() && !WORDS.contains(text);
        }

        boolean isNumber() {
            return text != null && text.matches("[0-9]{1,3}");
        }

        boolean is(String other) {
            return other.equals(text);
        }
    }

    private static final class Reader {
        final List<Token> tokens = new ArrayList<>();
        int at = 0;

        Reader(String text, int most) {
            int i = 0;
            while (true) {
                while (i < text.length() && " \n".indexOf(text.charAt(i)) >= 0) {
                    i++;
                }
                if (text.length() > most && i >= most) {
                    tokens.add(new Token(null, most, false));
                    return;
                }
                if (i == text.length()) {
                    tokens.add(new Token(null, i, true));
                    return;
                }
                int start = i;
                while (i < text.length() && text.substring(i, i + 1).matches("[a-z0-9]")) {
                    i++;
                }
                if (i == start) {
                    i++;
                }
                String token = text.substring(start, i);
                boolean fine = token.matches("[a-z]{1,7}|[0-9]{1,3}|[;<=>()]");
                tokens.add(new Token(fine ? token : null, start, false));
            }
        }

        Token look() {
            return tokens.get(Math.min(at, tokens.size() - 1));
        }

        Token next() {
            Token token = look();
            at++;
            return token;
        }

        void want(String text) {
            Token token = next();
            if (!token.is(text)) {
                throw new Fault(1, token.place);
            }
        }

        int number(int least, int most) {
            Token token = next();
            if (!token.isNumber()) {
                throw new Fault(1, token.place);
            }
            int value = Integer.parseInt(token.text);
            if (value < least || value > most) {
                throw new Fault(2, token.place);
            }
            return value;
        }

        Token name() {
            Token token = next();
            if (!token.isName()) {
                throw new Fault(1, token.place);
            }
            return token;
        }

        int nameOf(List<String> sort) {
            Token token = name();
            if (!sort.contains(token.text)) {
                throw new Fault(3, token.place);
            }
            return sort.indexOf(token.text);
        }
    }

    /** A CITY and all that is so, copied whole whenever it must be kept. */
    private static final class World {
        List<String> persons = new ArrayList<>();
        List<String> maids = new ArrayList<>();
        List<Integer> loops = new ArrayList<>();
        List<Integer> buttons = new ArrayList<>();
        List<Integer> strengths = new ArrayList<>();
        List<Integer> hooks = new ArrayList<>();
        Set<List<Integer>> streets = new HashSet<>();
        Map<Integer, Integer> done = new TreeMap<>();
        List<Integer> left = new ArrayList<>();
        Map<Integer, Integer> used = new HashMap<>();
        Map<String, Integer> once = new LinkedHashMap<>();
        int spares;
        int day;
        int buttoned;
        int perished;

        World copy() {
            World w = new World();
            w.persons = persons;
            w.maids = maids;
            w.loops = loops;
            w.buttons = buttons;
            w.strengths = strengths;
            w.hooks = hooks;
            w.streets = streets;
            w.once = once;
            w.done = new TreeMap<>(done);
            w.left = new ArrayList<>(left);
            w.used = new HashMap<>(used);
            w.spares = spares;
            w.day = day;
            w.buttoned = buttoned;
            w.perished = perished;
            return w;
        }

        boolean isPerson(int p) {
            return p >= 0 && p < persons.size();
        }

        boolean isMaid(int m) {
            return m >= 0 && m < maids.size();
        }

        boolean street(int p, int q) {
            return streets.contains(List.of(Math.min(p, q), Math.max(p, q)));
        }

        int year() {
            return once.getOrDefault("year", 12);
        }

        int july() {
            return once.getOrDefault("july", 1);
        }

        boolean wears() {
            return day < 400 && day % year() < july();
        }

        boolean bare(int q) {
            return !done.containsValue(q);
        }

        boolean usedUp(int m) {
            return used.getOrDefault(m, 0) >= hooks.get(m);
        }

        int tryButton(int m, int p, int q) {
            int why = usedUp(m) ? 1 : whyNot(p, q);
            if (why == 0) {
                done.put(p, q);
                used.merge(m, 1, Integer::sum);
                buttoned++;
            }
            return why;
        }

        int whyNot(int p, int q) {
            return p == q ? 2 : !street(p, q) ? 3 : !buttons.get(p).equals(loops.get(q)) ? 4
                : done.containsKey(p) ? 5 : !bare(q) ? 6 : left.get(q) == 0 ? 7 : 0;
        }

        int tryLoose(int m, int p) {
            int why = usedUp(m) ? 1 : !done.containsKey(p) ? 2 : 0;
            if (why == 0) {
                done.remove(p);
                used.merge(m, 1, Integer::sum);
            }
            return why;
        }

        int tryMend(int p) {
            int why = left.get(p).equals(strengths.get(p)) ? 1 : spares == 0 ? 2 : 0;
            if (why == 0) {
                left.set(p, strengths.get(p));
                spares--;
            }
            return why;
        }

        boolean passDay() {
            if (day == 400) {
                return false;
            }
            if (wears()) {
                for (int p : new ArrayList<>(done.keySet())) {
                    int q = done.get(p);
                    left.set(q, left.get(q) - 1);
                    if (left.get(q) == 0) {
                        perished++;
                        done.remove(p);
                    }
                }
            }
            day++;
            used.clear();
            return true;
        }

        int drawn(int n, int seed) {
            int[] x = {seed};
            int went = 0;
            while (went < n && day < 400) {
                for (int m = 0; m < maids.size(); m++) {
                    boolean looses = draw(x, 4) == 0;
                    int many = persons.size();
                    if (many > 0 && looses) {
                        tryLoose(m, draw(x, many));
                    } else if (many > 0) {
                        int p = draw(x, many);
                        tryButton(m, p, draw(x, many));
                    }
                }
                passDay();
                went++;
            }
            return went;
        }

        static int draw(int[] x, int n) {
            x[0] = (int) (x[0] * 1103515245L + 12345L);
            return (int) ((x[0] & 0xffffffffL) >> 8) % n;
        }

        /** Who is with p, by the buttons that are done up but for one that is left out. */
        Set<Integer> with(int p, int but) {
            Set<Integer> found = new TreeSet<>(Set.of(p));
            boolean grew = true;
            while (grew) {
                grew = false;
                for (Map.Entry<Integer, Integer> e : done.entrySet()) {
                    if (e.getKey() != but && (found.contains(e.getKey()) || found.contains(e.getValue()))) {
                        grew |= found.add(e.getKey());
                        grew |= found.add(e.getValue());
                    }
                }
            }
            return found;
        }

        List<Integer> behind(int p) {
            List<Integer> row = new ArrayList<>();
            Integer q = done.get(p);
            while (q != null && q != p) {
                row.add(q);
                q = done.get(q);
            }
            return row;
        }

        boolean ring(int p) {
            List<Integer> row = behind(p);
            return !row.isEmpty() && Integer.valueOf(p).equals(done.get(row.get(row.size() - 1)));
        }

        int open() {
            int bits = 0;
            for (int p = 0; p < persons.size(); p++) {
                bits |= done.containsKey(p) ? 0 : 1 << p;
            }
            return bits;
        }
    }

    private interface Says {
        boolean of(World w, int p);
    }

    private String tape = "";
    private World world = new World();
    private Says says;
    private int fault;
    private final ArrayDeque<World> past = new ArrayDeque<>();
    private final World[] images = new World[2];
    private final Says[] imageSays = new Says[2];
    private int[] mates;
    private boolean mateHolds;
    private int least = -1;
    private int turn = -1;
    private List<Integer> path = List.of();
    private String card = "";
    private int[] told;
    private int ones;

    private void keep(World before) {
        past.push(before);
        if (past.size() > 8) {
            past.removeLast();
        }
    }

    int feed(int a, int b, int c, int d, int e) {
        if (tape.length() + 20 > 940) {
            return -1;
        }
        for (int v : new int[] {a, b, c, d, e}) {
            for (int i = 3; i >= 0; i--) {
                tape += (char) (v >> 8 * i & 0xff);
            }
        }
        return tape.length();
    }

    boolean end(int n) {
        if (n < 0 || n > tape.length()) {
            return false;
        }
        tape = tape.substring(0, n);
        return true;
    }

    private String takeTape() {
        String text = tape;
        tape = "";
        return text;
    }

    int city() {
        Reader r = new Reader(takeTape(), 900);
        fault = 0;
        try {
            World w = new World();
            int lines = 0;
            while (!r.look().isEnd) {
                readLine(r, w);
                r.want(";");
                lines++;
            }
            w.left = new ArrayList<>(w.strengths);
            w.spares = w.once.getOrDefault("spare", 0);
            world = w;
            says = null;
            past.clear();
            mateHolds = false;
            return lines;
        } catch (Fault f) {
            fault = f.kind;
            return -1 - f.place;
        }
    }

    private static void readLine(Reader r, World w) {
        Token first = r.next();
        String word = first.text == null ? "" : first.text;
        switch (word) {
            case "person":
            case "maid":
                readNewOne(r, w, first);
                break;
            case "street":
            case "done":
                readPair(r, w, word);
                break;
            case "spare":
            case "year":
            case "july":
                if (w.once.containsKey(word)) {
                    throw new Fault(3, first.place);
                }
                w.once.put(word, r.number(word.equals("year") ? 2 : 0, word.equals("spare") ? 20 : 60));
                break;
            default:
                throw new Fault(1, first.place);
        }
    }

    private static void readNewOne(Reader r, World w, Token first) {
        boolean isPerson = first.is("person");
        List<String> sort = isPerson ? w.persons : w.maids;
        if (sort.size() == (isPerson ? 9 : 3)) {
            throw new Fault(4, first.place);
        }
        Token name = r.name();
        if (w.persons.contains(name.text) || w.maids.contains(name.text)) {
            throw new Fault(3, name.place);
        }
        if (isPerson) {
            for (List<Integer> row : List.of(w.loops, w.buttons)) {
                Token kind = r.next();
                if (kind.text == null || !KINDS.contains(kind.text)) {
                    throw new Fault(1, kind.place);
                }
                row.add(KINDS.indexOf(kind.text));
            }
        }
        (isPerson ? w.strengths : w.hooks).add(r.number(1, 9));
        sort.add(name.text);
    }

    private static void readPair(Reader r, World w, String word) {
        int place = r.look().place;
        int p = r.nameOf(w.persons);
        if (word.equals("done") && w.done.containsKey(p)) {
            throw new Fault(3, place);
        }
        place = r.look().place;
        int q = r.nameOf(w.persons);
        if (p == q) {
            throw new Fault(3, place);
        }
        if (word.equals("street")) {
            if (!w.streets.add(List.of(Math.min(p, q), Math.max(p, q)))) {
                throw new Fault(3, place);
            }
            return;
        }
        if (w.done.containsValue(q) || !w.buttons.get(p).equals(w.loops.get(q))) {
            throw new Fault(3, place);
        }
        w.done.put(p, q);
    }

    int fault() {
        return fault;
    }

    int person(int p, int what) {
        if (!world.isPerson(p) || what < 0 || what > 7) {
            throw new NoSuchElementException();
        }
        int holder = -1;
        for (Map.Entry<Integer, Integer> e : world.done.entrySet()) {
            holder = e.getValue() == p ? e.getKey() : holder;
        }
        int[] all = {world.loops.get(p), world.buttons.get(p), world.strengths.get(p), world.left.get(p),
            world.done.getOrDefault(p, -1), holder, world.behind(p).size(), world.ring(p) ? 1 : 0};
        return all[what];
    }

    int maid(int m, int what) {
        if (!world.isMaid(m) || what < 0 || what > 1) {
            return -1;
        }
        return what == 0 ? world.hooks.get(m) : world.used.getOrDefault(m, 0);
    }

    int now(int what) {
        int bare = 0;
        int torn = 0;
        for (int p = 0; p < world.persons.size(); p++) {
            bare |= world.bare(p) ? 1 << p : 0;
            torn |= world.left.get(p) == 0 ? 1 << p : 0;
        }
        int[] all = {world.day, world.open(), bare, torn, world.spares, world.buttoned, world.perished,
            world.wears() ? 1 : 0};
        return what >= 0 && what < all.length ? all[what] : -1;
    }

    int button(int m, int p, int q) {
        if (!world.isMaid(m) || !world.isPerson(p) || !world.isPerson(q)) {
            return -1;
        }
        World before = world.copy();
        int why = world.tryButton(m, p, q);
        if (why == 0) {
            keep(before);
        }
        return why;
    }

    int loose(int m, int p) {
        if (!world.isMaid(m) || !world.isPerson(p)) {
            return -1;
        }
        World before = world.copy();
        int why = world.tryLoose(m, p);
        if (why == 0) {
            keep(before);
        }
        return why;
    }

    int mend(int p) {
        if (!world.isPerson(p)) {
            return -1;
        }
        World before = world.copy();
        int why = world.tryMend(p);
        if (why == 0) {
            keep(before);
        }
        return why;
    }

    int days(int n) {
        if (n < 1 || n > 60) {
            return -1;
        }
        World before = world.copy();
        int went = 0;
        while (went < n && world.passDay()) {
            went++;
        }
        if (went > 0) {
            keep(before);
        }
        return went;
    }

    int undo() {
        if (past.isEmpty()) {
            return -1;
        }
        world = past.pop();
        return past.size();
    }

    private static int bits(Iterable<Integer> who) {
        int bits = 0;
        for (int p : who) {
            bits |= 1 << p;
        }
        return bits;
    }

    int with(int p) {
        return world.isPerson(p) ? bits(world.with(p, -1)) : -1;
    }

    int parts() {
        Set<Set<Integer>> parts = new HashSet<>();
        for (int p = 0; p < world.persons.size(); p++) {
            parts.add(world.with(p, -1));
        }
        return parts.size();
    }

    int quiet() {
        int bits = 0;
        for (int p : world.done.keySet()) {
            bits |= world.with(p, -1).equals(world.with(p, p)) ? 1 << p : 0;
        }
        return bits;
    }

    /** Every way to do them up is tried in order, the first of the largest stays. */
    int match() {
        int n = world.persons.size();
        int[] best = new int[n + 1];
        best[n] = -1;
        tryMates(0, new int[n], 0, 0, best);
        mates = Arrays.copyOf(best, n);
        mateHolds = true;
        return best[n];
    }

    private void tryMates(int p, int[] row, int taken, int many, int[] best) {
        int n = row.length;
        if (many + n - p <= best[n]) {
            return;
        }
        if (p == n) {
            System.arraycopy(row, 0, best, 0, n);
            best[n] = many;
            return;
        }
        for (int q = 0; q < n; q++) {
            boolean fits = world.street(p, q) && world.buttons.get(p).equals(world.loops.get(q))
                && world.left.get(q) > 0 && (taken >> q & 1) == 0;
            if (fits) {
                row[p] = q;
                tryMates(p + 1, row, taken | 1 << q, many + 1, best);
            }
        }
        row[p] = -1;
        tryMates(p + 1, row, taken, many, best);
    }

    int matched(int p) {
        return mates == null || p < 0 || p >= mates.length ? -1 : mates[p];
    }

    int takes() {
        if (!mateHolds) {
            return -1;
        }
        int work = 0;
        for (int p = 0; p < mates.length; p++) {
            int is = world.done.getOrDefault(p, -1);
            work += is == mates[p] ? 0 : (is < 0 ? 0 : 1) + (mates[p] < 0 ? 0 : 1);
        }
        int hooks = world.hooks.stream().mapToInt(Integer::intValue).sum();
        int days = 0;
        while (work > 0) {
            if (hooks == 0) {
                return -1;
            }
            work -= hooks;
            days++;
        }
        return days;
    }

    private static int[] row(int n, int s) {
        int[] row = new int[n];
        for (int p = 0; p < n; p++) {
            row[p] = p < s ? p + 1 : p + 2;
            row[p] = row[p] >= n ? 255 : row[p];
        }
        return row;
    }

    int slips() {
        String text = takeTape();
        int n = world.persons.size();
        if (text.length() % 2 == 1 || text.isEmpty() || text.length() > 16) {
            return -1;
        }
        List<int[]> rows = new ArrayList<>();
        List<Integer> numbers = new ArrayList<>();
        for (int s = 0; s <= n; s++) {
            boolean fits = true;
            for (int i = 0; i < text.length(); i += 2) {
                int p = text.charAt(i);
                int q = text.charAt(i + 1);
                if (p >= n || q >= n && q != 255) {
                    return -1;
                }
                fits &= row(n, s)[p] == q;
            }
            if (fits) {
                rows.add(row(n, s));
                numbers.add(s);
            }
        }
        if (rows.isEmpty()) {
            return 0;
        }
        least = numbers.get(0);
        int fewest = 1000;
        for (int p = 0; p < n; p++) {
            Map<Integer, Integer> groups = new HashMap<>();
            for (int[] row : rows) {
                groups.merge(row[p], 1, Integer::sum);
            }
            int worst = groups.values().stream().mapToInt(Integer::intValue).max().getAsInt();
            if (worst < fewest) {
                fewest = worst;
                turn = p;
            }
        }
        return rows.size();
    }

    int slipLeast() {
        return least;
    }

    int turn() {
        return turn;
    }

    /** Rows of PERSONS, grown by one at a time in order: the first that comes to q is the one. */
    int way(int p, int q) {
        if (!world.isPerson(p) || !world.isPerson(q)) {
            return -1;
        }
        List<List<Integer>> rows = List.of(List.of(p));
        Set<Integer> seen = new HashSet<>(Set.of(p));
        while (!rows.isEmpty()) {
            List<List<Integer>> longer = new ArrayList<>();
            Set<Integer> newly = new HashSet<>();
            for (List<Integer> row : rows) {
                int last = row.get(row.size() - 1);
                if (last == q) {
                    path = row;
                    return row.size() - 1;
                }
                for (int r = 0; r < world.persons.size(); r++) {
                    if (world.street(last, r) && !seen.contains(r) && newly.add(r)) {
                        List<Integer> next = new ArrayList<>(row);
                        next.add(r);
                        longer.add(next);
                    }
                }
            }
            seen.addAll(newly);
            rows = longer;
        }
        return -1;
    }

    int wayAt(int k) {
        return k >= 0 && k < path.size() ? path.get(k) : -1;
    }

    int lasts(int p) {
        if (!world.isPerson(p) || world.bare(p)) {
            return -1;
        }
        World w = world.copy();
        int days = 0;
        while (w.passDay()) {
            days++;
            if (w.left.get(p) == 0) {
                return days;
            }
        }
        return -1;
    }

    int near(int p) {
        if (!world.isPerson(p)) {
            return -1;
        }
        int bits = 0;
        for (int q = 0; q < world.persons.size(); q++) {
            bits |= world.street(p, q) ? 1 << q : 0;
        }
        return bits;
    }

    int could(int p) {
        if (!world.isPerson(p)) {
            return -1;
        }
        int bits = 0;
        for (int q = 0; q < world.persons.size(); q++) {
            bits |= world.whyNot(p, q) == 0 ? 1 << q : 0;
        }
        return bits;
    }

    int card(int p) {
        if (!world.isPerson(p)) {
            return -1;
        }
        Integer q = world.done.get(p);
        card = world.persons.get(p) + (q == null ? " open" : " in " + world.persons.get(q))
            + (world.left.get(p) == 0 ? " torn" : world.bare(p) ? " bare" : "");
        return card.length();
    }

    int byteAt(int i) {
        return i >= 0 && i < card.length() ? card.charAt(i) : -1;
    }

    int drawn(int n, int seed) {
        if (n < 1 || n > 60 || world.maids.isEmpty()) {
            return -1;
        }
        World before = world.copy();
        int went = world.drawn(n, seed);
        if (went > 0) {
            keep(before);
        }
        return went;
    }

    int odds(int p, int n, int seed) {
        if (!world.isPerson(p) || n < 1 || n > 30 || world.maids.isEmpty()) {
            return -1;
        }
        int many = 0;
        for (int i = 0; i < n; i++) {
            World w = world.copy();
            w.drawn(20, seed + i);
            many += w.done.containsKey(p) ? 1 : 0;
        }
        return many;
    }

    /** A LINE of a BOOK: what it does to a world, and why not. */
    private interface Line {
        int live(World w);
    }

    int book(int lives) {
        if (lives != 0 && lives != 1) {
            return -1000;
        }
        List<Line> lines = new ArrayList<>();
        Reader r = new Reader(takeTape(), 400);
        fault = 0;
        try {
            while (!r.look().isEnd) {
                lines.add(readBookLine(r, lines.size()));
                r.want(";");
            }
        } catch (Fault f) {
            fault = f.kind;
            return -2 - f.place;
        }
        World w = world.copy();
        int why = 0;
        int k = 0;
        while (k < lines.size() && why == 0) {
            why = lines.get(k).live(w);
            k += why == 0 ? 1 : 0;
        }
        told = new int[] {why, k, w.day, w.open()};
        if (lives == 1) {
            keep(world);
            world = w;
        }
        return why == 0 ? -1 : k;
    }

    private Line readBookLine(Reader r, int before) {
        Token first = r.look();
        if (!first.is("mend") && !first.is("day")) {
            r.nameOf(world.maids);
        } else {
            r.next();
        }
        if (before == 40) {
            throw new Fault(4, first.place);
        }
        if (first.is("day")) {
            int n = r.number(1, 60);
            return w -> {
                for (int i = 0; i < n && w.day + n - i <= 400; i++) {
                    w.passDay();
                    if (i == n - 1) {
                        return 0;
                    }
                }
                return 31;
            };
        }
        if (first.is("mend")) {
            int p = r.nameOf(world.persons);
            return w -> behind(20, w.tryMend(p));
        }
        int m = world.maids.indexOf(first.text);
        Token deed = r.next();
        if (!deed.is("buttons") && !deed.is("looses")) {
            throw new Fault(1, deed.place);
        }
        int p = r.nameOf(world.persons);
        if (deed.is("looses")) {
            return w -> behind(10, w.tryLoose(m, p));
        }
        int q = r.nameOf(world.persons);
        return w -> w.tryButton(m, p, q);
    }

    private static int behind(int start, int why) {
        return why == 0 ? 0 : start + why;
    }

    int told(int what) {
        return told == null || what < 0 || what > 3 ? -1 : told[what];
    }

    int sentence() {
        Reader r = new Reader(takeTape(), 200);
        fault = 0;
        ones = 0;
        try {
            Says read = cond(r, 0);
            if (!r.look().isEnd) {
                throw new Fault(1, r.look().place);
            }
            says = read;
            return ones;
        } catch (Fault f) {
            fault = f.kind;
            return -1 - f.place;
        }
    }

    private Says cond(Reader r, int within) {
        Says left = all(r, within);
        if (!r.look().is("or")) {
            return left;
        }
        List<Says> parts = new ArrayList<>(List.of(left));
        while (r.look().is("or")) {
            r.next();
            parts.add(all(r, within));
        }
        return (w, p) -> parts.stream().anyMatch(s -> s.of(w, p));
    }

    private Says all(Reader r, int within) {
        List<Says> parts = new ArrayList<>(List.of(one(r, within)));
        while (r.look().is("and")) {
            r.next();
            parts.add(one(r, within));
        }
        return (w, p) -> parts.stream().allMatch(s -> s.of(w, p));
    }

    private Says one(Reader r, int within) {
        Token first = r.next();
        if (first.text == null || !first.text.matches("not|[(]|open|bare|torn|ring|with|near|loop|chain|number")) {
            throw new Fault(1, first.place);
        }
        if (ones == 20 || within == 8) {
            throw new Fault(4, first.place);
        }
        ones++;
        switch (first.text) {
            case "not": {
                Says inner = one(r, within + 1);
                return (w, p) -> !inner.of(w, p);
            }
            case "(": {
                Says inner = cond(r, within + 1);
                r.want(")");
                return inner;
            }
            case "open":
                return (w, p) -> !w.done.containsKey(p);
            case "bare":
                return (w, p) -> w.bare(p);
            case "torn":
                return (w, p) -> w.left.get(p) == 0;
            case "ring":
                return (w, p) -> w.ring(p);
            case "with": {
                int q = r.nameOf(world.persons);
                return (w, p) -> w.with(q, -1).contains(p);
            }
            case "near": {
                int q = r.nameOf(world.persons);
                return (w, p) -> w.street(p, q);
            }
            default:
                return measure(r, first.text);
        }
    }

    private static Says measure(Reader r, String what) {
        Token sign = r.next();
        if (!sign.is("<") && !sign.is("=") && !sign.is(">")) {
            throw new Fault(1, sign.place);
        }
        int number = r.number(0, 999);
        return (w, p) -> {
            int is = what.equals("loop") ? w.left.get(p) : what.equals("chain") ? w.behind(p).size() : p;
            return sign.is("<") ? is < number : sign.is("=") ? is == number : is > number;
        };
    }

    int said(int k) {
        if (says == null) {
            return -1;
        }
        List<Integer> who = new ArrayList<>();
        for (int p = 0; p < world.persons.size(); p++) {
            if (says.of(world, p)) {
                who.add(p);
            }
        }
        return k == -1 ? who.size() : k >= 0 && k < who.size() ? who.get(k) : -1;
    }

    boolean image(int k) {
        if (k != 0 && k != 1) {
            return false;
        }
        images[k] = world.copy();
        imageSays[k] = says;
        return true;
    }

    boolean restore(int k) {
        if (k != 0 && k != 1 || images[k] == null) {
            return false;
        }
        world = images[k].copy();
        says = imageSays[k];
        past.clear();
        mateHolds = false;
        return true;
    }

    int count(int what) {
        int[] all = {world.persons.size(), world.maids.size(), world.year(), world.july(), tape.length()};
        return what >= 0 && what < all.length ? all[what] : -1;
    }
}
