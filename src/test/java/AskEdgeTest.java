/** Edges of promises 1 to 38, call by call: no such ones, ahead of any, nothing kept, an empty CITY, a full one. */
public final class AskEdgeTest {
    private static final String TWO = "person ann bone bone 3;person bob bone bone 2;maid may 2;street ann bob;";

    public static void main(String[] args) {
        newObject();
        HookedCity[] cities = {new HookedCity(), Probe.of("person ann bone bone 1;"), Probe.of(TWO), full()};
        for (HookedCity x : cities) {
            noSuchPersons(x.count(0), x.count(1));
            noSuchWhats(x.count(0), x.count(1));
        }
        feeding();
        ending();
        faults();
        throwing();
        withAndParts();
        rings();
        matchAhead();
        matchSmaller();
        takesEdges();
        slipsEdges();
        slipsAll();
        turns();
        waysAll();
        wayStays();
        cards();
        coulds();
        imagePlaces();
        restores();
        counts();
        Probe.finish();
    }

    private static String persons(int many) {
        StringBuilder text = new StringBuilder();
        for (int p = 0; p < many; p++) {
            text.append("person ").append((char) ('a' + p)).append(" bone bone 9;");
        }
        return text.toString();
    }

    private static HookedCity full() {
        return Probe.of(persons(9) + "maid m 1;maid n 1;maid o 1;street a b;street h i;done a i;done i a;");
    }

    private static HookedCity of(int persons, int maids) {
        if (persons == 9) {
            return full();
        }
        return persons == 2 ? Probe.of(TWO) : persons == 1 ? Probe.of("person ann bone bone 1;") : new HookedCity();
    }

    /** Promise 1: an empty CITY, an empty tape, and everything ahead of any. */
    private static void newObject() {
        HookedCity x = new HookedCity();
        int[] counts = {0, 0, 12, 1, 0};
        for (int what = 0; what < 5; what++) {
            Probe.due("count " + what, x.count(what), counts[what]);
        }
        int[] now = {0, 0, 0, 0, 0, 0, 0, 1};
        for (int what = 0; what < 8; what++) {
            Probe.due("now " + what, x.now(what), now[what]);
        }
        Probe.due("no FAULT ahead of any", x.fault(), 0);
        Probe.due("nothing to undo", x.undo(), Probe.NONE);
        Probe.due("no parts", x.parts(), 0);
        Probe.due("nobody is QUIET", x.quiet(), 0);
        Probe.due("takes ahead of any match()", x.takes(), Probe.NONE);
        Probe.due("slipLeast ahead of any", x.slipLeast(), Probe.NONE);
        Probe.due("turn ahead of any", x.turn(), Probe.NONE);
        Probe.due("an empty tape is no pairs", x.slips(), Probe.NONE);
        Probe.due("nothing is kept", x.restore(0) || x.restore(1), false);
        for (int i = -1; i < 12; i++) {
            Probe.due("matched ahead of any", x.matched(i), Probe.NONE);
            Probe.due("wayAt ahead of any", x.wayAt(i), Probe.NONE);
            Probe.due("byteAt ahead of any", x.byteAt(i), Probe.NONE);
            Probe.due("told ahead of any", x.told(i), Probe.NONE);
            Probe.due("said of no SENTENCE", x.said(i), Probe.NONE);
        }
        Probe.due("an empty tape is a CITY of no LINES", x.city(), 0);
        Probe.due("an empty tape is no SENTENCE", x.sentence(), -1);
        Probe.due("FAULT at its end", x.fault(), 1);
        Probe.due("an empty tape is a BOOK of no LINES", x.book(1), Probe.NONE);
        Probe.due("match of nobody", x.match(), 0);
        Probe.due("nothing is to be done", x.takes(), 0);
    }

    private static void noSuchPersons(int persons, int maids) {
        HookedCity x = of(persons, maids);
        String before = Probe.everything(x);
        for (int p : Probe.beyond(persons)) {
            for (int what = 0; what < 8; what++) {
                Probe.due("person " + p, Probe.person(x, p, what), Probe.THROWS);
            }
            Probe.due("mend " + p, x.mend(p), Probe.NONE);
            Probe.due("with " + p, x.with(p), Probe.NONE);
            Probe.due("lasts " + p, x.lasts(p), Probe.NONE);
            Probe.due("near " + p, x.near(p), Probe.NONE);
            Probe.due("could " + p, x.could(p), Probe.NONE);
            Probe.due("card " + p, x.card(p), Probe.NONE);
            Probe.due("way " + p, x.way(p, p), Probe.NONE);
            Probe.due("way to " + p, x.way(0, p), Probe.NONE);
            Probe.due("way from " + p, x.way(p, 0), Probe.NONE);
            Probe.due("loose " + p, x.loose(0, p), Probe.NONE);
            Probe.due("button " + p, x.button(0, p, 0), Probe.NONE);
            Probe.due("button into " + p, x.button(0, 0, p), Probe.NONE);
            Probe.due("button both " + p, x.button(0, p, p), Probe.NONE);
            Probe.due("odds " + p, x.odds(p, 1, 1), Probe.NONE);
            Probe.due("matched " + p, x.matched(p), Probe.NONE);
        }
        x = of(persons, maids);
        for (int m : Probe.beyond(maids)) {
            Probe.due("maid " + m, x.maid(m, 0), Probe.NONE);
            Probe.due("maid " + m, x.maid(m, 1), Probe.NONE);
            Probe.due("button by " + m, x.button(m, 0, 1), Probe.NONE);
            Probe.due("loose by " + m, x.loose(m, 0), Probe.NONE);
        }
        Probe.due("no such ones change nothing", Probe.everything(x).equals(before), true);
        Probe.due("and are no acts", x.undo(), Probe.NONE);
    }

    private static void noSuchWhats(int persons, int maids) {
        HookedCity x = of(persons, maids);
        x.match();
        for (int p = 0; p < persons; p++) {
            for (int what : Probe.beyond(8)) {
                Probe.due("person of " + what, Probe.person(x, p, what), Probe.THROWS);
            }
        }
        x = of(persons, maids);
        for (int m = 0; m < maids; m++) {
            for (int what : Probe.beyond(2)) {
                Probe.due("maid of " + what, x.maid(m, what), Probe.NONE);
            }
        }
        for (int what : Probe.beyond(8)) {
            Probe.due("now of " + what, x.now(what), Probe.NONE);
        }
        for (int what : Probe.beyond(5)) {
            Probe.due("count of " + what, x.count(what), Probe.NONE);
        }
        x.book(0);
        for (int what : Probe.beyond(4)) {
            Probe.due("told of " + what, x.told(what), Probe.NONE);
        }
        for (int k : Probe.beyond(2)) {
            Probe.due("image in " + k, x.image(k), false);
            Probe.due("restore from " + k, x.restore(k), false);
        }
        if (persons > 0) {
            x.card(0);
            int bytes = x.card(0);
            for (int i : Probe.beyond(bytes)) {
                Probe.due("byteAt " + i, x.byteAt(i), Probe.NONE);
            }
            Probe.due("a way to oneself", x.way(0, 0), 0);
            for (int k : Probe.beyond(1)) {
                Probe.due("wayAt " + k, x.wayAt(k), Probe.NONE);
            }
        }
    }

    /** Promise 2: not more than 940; none come, if there would be. */
    private static void feeding() {
        for (int had = 915; had <= 940; had++) {
            HookedCity x = new HookedCity();
            for (int i = 0; i < 47; i++) {
                Probe.due("feed", x.feed(0x20202020, 0x20202020, 0x20202020, 0x20202020, 0x20202020), 20 * i + 20);
            }
            x.end(had);
            int due = had <= 920 ? had + 20 : Probe.NONE;
            Probe.due("feed behind " + had, x.feed(0x3f3f3f3f, 0, 0, 0, 0), due);
            Probe.due("bytes behind " + had, x.count(4), had <= 920 ? had + 20 : had);
            Probe.due("a FAULT behind 900 blanks", x.city(), -1 - 900);
        }
        // of each number the highest byte first, also below 0
        HookedCity x = Probe.of(persons(9));
        x.feed(0x00010102, 0x02030304, 0, 0, 0);
        x.end(8);
        Probe.due("0 1, 1 2, 2 3, 3 4", x.slips(), 6);
        x.feed(0x08ff08ff, 0x08ff07ff, 0, 0, 0);
        x.end(8);
        Probe.due("8 OPEN thrice, 7 OPEN", x.slips(), 8);
        x.feed(0, 0, 0, 0, 0xffffffff);
        Probe.due("twenty", x.count(4), 20);
    }

    /** Promise 3. */
    private static void ending() {
        HookedCity x = new HookedCity();
        int[] none = {1, -1, 20, 940, Integer.MAX_VALUE, Integer.MIN_VALUE};
        for (int n : none) {
            Probe.due("end " + n + " of none", x.end(n), false);
        }
        Probe.due("end 0 of none", x.end(0), true);
        x.feed(0, 0, 0, 0, 0);
        for (int n : Probe.beyond(21)) {
            Probe.due("end " + n + " of 20", x.end(n), false);
            Probe.due("all of them stay", x.count(4), 20);
        }
        for (int n = 20; n >= 0; n--) {
            Probe.due("end " + n, x.end(n), true);
            Probe.due("bytes", x.count(4), n);
            Probe.due("one more", x.end(n + 1), false);
        }
        // bytes that were cut off do not come again
        Probe.tape(x, "spare 3;spare 4;");
        Probe.due("the first eight alone", x.end(8), true);
        Probe.tape(x, "year 5;");
        Probe.due("two LINES", x.city(), 2);
        Probe.due("spares", x.now(4), 3);
    }

    /** Promise 5: the latest of three calls; others leave it. */
    private static void faults() {
        HookedCity x = Probe.of(TWO);
        int[][] reads = {{Probe.CITY, 2}, {Probe.BOOK, 3}, {Probe.SENTENCE, 1}, {Probe.BOOK, 2}, {Probe.SENTENCE, 3}};
        String[] texts = {"year 1;", "mend eve;", "open)", "day 0;", "near may"};
        for (int i = 0; i < reads.length; i++) {
            Probe.due("a FAULT", Probe.placeOf(x, reads[i][0], texts[i]) >= 0, true);
            int kind = reads[i][1];
            Probe.due("its kind", x.fault(), kind);
            x.slips();
            x.book(5);
            x.feed(0, 0, 0, 0, 0);
            x.end(0);
            x.days(1);
            x.undo();
            x.image(0);
            x.restore(0);
            x.match();
            Probe.due("these leave it", x.fault(), kind);
        }
        Probe.fine(x, Probe.BOOK, "day 1;");
        Probe.faultAt(x, Probe.BOOK, "day !0;", 2);
        Probe.fine(x, Probe.SENTENCE, "open");
        Probe.faultAt(x, Probe.SENTENCE, "!", 1);
        Probe.fine(x, Probe.CITY, "");
        Probe.due("a LINE that is WRONG is no FAULT", Probe.book(Probe.of(TWO), "mend ann;", 0), 0);
    }

    /** A call that throws changes nothing. */
    private static void throwing() {
        HookedCity x = Probe.of(TWO + "spare 3;done ann bob;year 2;july 1;");
        x.days(1);
        x.loose(0, 0);
        x.match();
        x.way(0, 1);
        x.card(1);
        Probe.book(x, "day 3;", 0);
        Probe.sentence(x, "open");
        Probe.tape(x, "year");
        String before = Probe.everything(x);
        int[][] none = {{-1, 0}, {2, 0}, {0, -1}, {0, 8}, {9, 9}, {Integer.MIN_VALUE, Integer.MAX_VALUE}};
        for (int[] one : none) {
            Probe.due("it throws", Probe.person(x, one[0], one[1]), Probe.THROWS);
            Probe.due("nothing is changed", Probe.everything(x).equals(before), true);
        }
        Probe.due("the acts can be undone still", x.undo(), 1);
    }

    /** Promises 14 and 15: from each alone to all in one, by a row and by a RING. */
    private static void withAndParts() {
        for (int many = 1; many <= 9; many++) {
            StringBuilder text = new StringBuilder(persons(many));
            for (int joined = 1; joined <= many; joined++) {
                HookedCity x = Probe.of(text.toString());
                Probe.due("parts", x.parts(), many - joined + 1);
                for (int p = 0; p < many; p++) {
                    Probe.due("with " + p, x.with(p), p < joined ? (1 << joined) - 1 : 1 << p);
                    Probe.due("CHAIN " + p, x.person(p, 6), p < joined ? joined - 1 - p : 0);
                    Probe.due("no RING", x.person(p, 7), 0);
                }
                Probe.due("nobody is QUIET in a row", x.quiet(), 0);
                String from = String.valueOf((char) ('a' + joined - 1));
                if (joined > 1) {
                    ringOf(Probe.of(text + "done " + from + " a;"), many, joined);
                }
                text.append(joined < many ? "done " + from + " " + (char) ('a' + joined) + ";" : "");
            }
        }
    }

    private static void ringOf(HookedCity x, int many, int joined) {
        int ring = (1 << joined) - 1;
        Probe.due("parts with a RING", x.parts(), many - joined + 1);
        Probe.due("QUIET: all of it", x.quiet(), ring);
        for (int p = 0; p < many; p++) {
            Probe.due("with on a RING", x.with(p), p < joined ? ring : 1 << p);
            Probe.due("all of it but himself", x.person(p, 6), p < joined ? joined - 1 : 0);
            Probe.due("on a RING", x.person(p, 7), p < joined ? 1 : 0);
        }
    }

    /** Promise 16: whose button would part nobody; loosed, they are WITH him still. */
    private static void rings() {
        HookedCity x = Probe.of(persons(9) + "maid m 1;maid n 1;done a b;done b c;done c a;done d e;done e d;done f g;");
        Probe.due("QUIET", x.quiet(), 31);
        for (int p = 0; p < 9; p++) {
            int with = x.with(p);
            int why = x.loose(0, p);
            boolean parted = why == 0 && x.with(p) != with;
            Probe.due("QUIET is just that", why == 0 && !parted, p < 5);
            if (why == 0) {
                x.undo();
            }
        }
        x.loose(0, 5);
        x.loose(1, 0);
        Probe.due("no HOOKS are left, but they could be loosed", x.quiet(), 24);
        Probe.due("without MAIDS too", Probe.of(persons(2) + "done a b;done b a;").quiet(), 3);
    }

    /** Promise 18. */
    private static void matchAhead() {
        HookedCity x = Probe.of(TWO);
        Probe.due("ahead of any", x.matched(0), Probe.NONE);
        Probe.due("match", x.match(), 2);
        Probe.due("matched", x.matched(0), 1);
        Probe.due("matched", x.matched(1), 0);
        for (int p : Probe.beyond(2)) {
            Probe.due("no such one", x.matched(p), Probe.NONE);
        }
        x.button(0, 0, 1);
        x.days(1);
        Probe.due("acts do not change what was told", x.matched(0), 1);
        x = Probe.of("person ann bone bone 1;");
        Probe.due("nobody for one alone", x.match(), 0);
        Probe.due("none", x.matched(0), Probe.NONE);
    }

    /** A match() of fewer leaves nothing of one of more. */
    private static void matchSmaller() {
        HookedCity x = Probe.of(persons(9) + "street a b;street c d;street h i;street f g;");
        Probe.due("match", x.match(), 8);
        Probe.due("the last", x.matched(8), 7);
        Probe.due("a CITY of two", Probe.city(x, TWO), 4);
        Probe.due("match", x.match(), 2);
        for (int p = 2; p < 9; p++) {
            Probe.due("no such one", x.matched(p), Probe.NONE);
        }
        Probe.due("an empty CITY", Probe.city(x, ""), 0);
        Probe.due("match", x.match(), 0);
        for (int p = 0; p < 9; p++) {
            Probe.due("no such one", x.matched(p), Probe.NONE);
        }
    }

    /** Promise 19: work and HOOKS from one DAY to the next; NONE without MAIDS only if something is to be done. */
    private static void takesEdges() {
        String row = persons(8) + "street a b;street c d;street e f;street g h;";
        for (int hooks = 1; hooks <= 9; hooks++) {
            HookedCity x = Probe.of(row + "maid m " + hooks + ";");
            Probe.due("match", x.match(), 8);
            Probe.due("eight by " + hooks, x.takes(), (8 + hooks - 1) / hooks);
            x = Probe.of(row + "maid m " + hooks + ";maid n " + hooks + ";");
            x.match();
            Probe.due("eight by two of " + hooks, x.takes(), (8 + 2 * hooks - 1) / (2 * hooks));
        }
        HookedCity x = Probe.of(row + "maid m 9;maid n 9;maid o 9;");
        x.match();
        Probe.due("eight by 27", x.takes(), 1);
        x = Probe.of(row);
        x.match();
        Probe.due("no MAIDS", x.takes(), Probe.NONE);
        x = Probe.of(row + "done a b;done b a;done c d;done d c;done e f;done f e;done g h;done h g;");
        Probe.due("ahead of any match()", x.takes(), Probe.NONE);
        x.match();
        Probe.due("no MAIDS, nothing to be done", x.takes(), 0);
        x = Probe.of(persons(3) + "done a c;");
        Probe.due("no streets", x.match(), 0);
        Probe.due("what should be nowhere is to be loosed: no MAIDS", x.takes(), Probe.NONE);
        x = Probe.of(persons(3) + "done a c;maid m 1;");
        x.match();
        Probe.due("one is to be loosed", x.takes(), 1);
        x.loose(0, 0);
        Probe.due("now nothing is", x.takes(), 0);
        x.undo();
        Probe.due("now it is again", x.takes(), 1);
        x = Probe.of(persons(3) + "street a b;done a c;maid m 1;");
        x.match();
        Probe.due("a is loosed and buttoned, b is buttoned", x.takes(), 3);
        x.loose(0, 0);
        Probe.due("the DAY of now counts whole, though her HOOK is used up", x.takes(), 2);
        Probe.due("a CITY with a FAULT is no other one", Probe.city(x, "?"), -1);
        Probe.due("takes", x.takes(), 2);
        Probe.due("another CITY, be it the same", Probe.city(x, persons(3) + "street a b;done a c;maid m 1;"), 6);
        Probe.due("takes", x.takes(), Probe.NONE);
    }

    private static int slips(HookedCity x, int... bytes) {
        Probe.tape(x, bytes);
        int many = x.slips();
        Probe.due("the tape is empty then", x.count(4), 0);
        return many;
    }

    /** Promise 20: 1 to 8 pairs of bytes, a PERSON and another one or 255. */
    private static void slipsEdges() {
        HookedCity x = Probe.of(persons(9));
        for (int bytes = 0; bytes <= 20; bytes++) {
            int[] tape = new int[bytes];
            for (int i = 1; i < bytes; i += 2) {
                tape[i] = 2;
            }
            boolean told = bytes >= 2 && bytes <= 16 && bytes % 2 == 0;
            Probe.due(bytes + " bytes", slips(x, tape), told ? 1 : Probe.NONE);
        }
        for (int persons = 0; persons <= 9; persons++) {
            x = Probe.of(persons(persons));
            for (int one = 0; one < 256; one += one < 12 ? 1 : one < 250 ? 30 : 1) {
                int first = slips(x, one, 255);
                Probe.due("PERSON " + one + " of " + persons, first == Probe.NONE, one >= persons);
                if (persons > 0) {
                    int second = slips(x, 0, one);
                    Probe.due("in " + one + " of " + persons, second == Probe.NONE, one >= persons && one != 255);
                }
            }
        }
        x = Probe.of(persons(3));
        Probe.due("the eighth pair", slips(x, 0, 1, 0, 1, 0, 1, 0, 1, 0, 1, 0, 1, 0, 1, 2, 3), Probe.NONE);
        Probe.due("the eighth pair", slips(x, 0, 1, 0, 1, 0, 1, 0, 1, 0, 1, 0, 1, 0, 1, 2, 255), 3);
        Probe.due("least", x.slipLeast(), 1);
    }

    /** All numbers s from 0 to all PERSONS, by the whole row as it would be. */
    private static void slipsAll() {
        for (int persons = 1; persons <= 8; persons++) {
            HookedCity x = Probe.of(persons(persons));
            Probe.due("ahead of any", x.slipLeast(), Probe.NONE);
            Probe.due("ahead of any", x.turn(), Probe.NONE);
            Probe.due("none fits", slips(x, 0, 0), 0);
            Probe.due("ahead of any above 0", x.slipLeast(), Probe.NONE);
            Probe.due("ahead of any above 0", x.turn(), Probe.NONE);
            for (int s = 0; s <= persons; s++) {
                int[] row = new int[2 * persons];
                for (int p = 0; p < persons; p++) {
                    int next = p < s ? p + 1 : p + 2;
                    row[2 * p] = p;
                    row[2 * p + 1] = next < persons ? next : 255;
                }
                // the last one is OPEN whether s is all PERSONS or one less
                boolean two = s >= persons - 1;
                Probe.due("row by " + s + " of " + persons, slips(x, row), two ? 2 : 1);
                Probe.due("least", x.slipLeast(), two ? persons - 1 : s);
                Probe.due("none fits", slips(x, 0, 0), 0);
                Probe.due("not as told", slips(x, 0), Probe.NONE);
                Probe.due("the latest above 0", x.slipLeast(), two ? persons - 1 : s);
            }
        }
    }

    /** Promise 22: at most so many are left, the least of these, of like ones the first; by brute force. */
    private static void turns() {
        for (int persons = 1; persons <= 9; persons++) {
            HookedCity x = Probe.of(persons(persons));
            for (int p = 0; p < persons; p++) {
                for (int moved = 1; moved <= 2; moved++) {
                    int found = p + moved < persons ? p + moved : 255;
                    int many = slips(x, p, found);
                    Probe.due("turn by " + p + " of " + persons, x.turn(), many > 0 ? bestTurn(persons, p, found) : x.turn());
                }
            }
        }
        HookedCity x = Probe.of(persons(9));
        Probe.due("all ten", slips(x, 8, 255), 10);
        Probe.due("five and five", x.turn(), 4);
        Probe.city(x, persons(2));
        Probe.due("as it was then", x.turn(), 4);
    }

    private static int found(int persons, int p, int s) {
        int next = p < s ? p + 1 : p + 2;
        return next < persons ? next : 255;
    }

    private static int bestTurn(int persons, int seen, int at) {
        int best = Probe.NONE;
        int fewest = Integer.MAX_VALUE;
        for (int p = 0; p < persons; p++) {
            int[] left = new int[256];
            int most = 0;
            for (int s = 0; s <= persons; s++) {
                if (found(persons, seen, s) == at) {
                    left[found(persons, p, s)]++;
                    most = Math.max(most, left[found(persons, p, s)]);
                }
            }
            if (most < fewest) {
                fewest = most;
                best = p;
            }
        }
        return best;
    }

    /** Promises 23 and 24: a row of streets from end to end, a CITY of all streets, one of none. */
    private static void waysAll() {
        StringBuilder row = new StringBuilder(persons(9));
        for (int p = 0; p < 8; p++) {
            row.append("street ").append((char) ('b' + p)).append(' ').append((char) ('a' + p)).append(';');
        }
        HookedCity x = Probe.of(row.toString());
        for (int p = 0; p < 9; p += 4) {
            for (int q = 0; q < 9; q++) {
                int far = Math.abs(p - q);
                Probe.due("way", x.way(p, q), far);
                for (int k = 0; k <= far; k++) {
                    Probe.due("wayAt", x.wayAt(k), p < q ? p + k : p - k);
                }
                Probe.due("none behind it", x.wayAt(far + 1), Probe.NONE);
                Probe.due("none ahead of it", x.wayAt(-1), Probe.NONE);
            }
        }
        x = Probe.of(persons(9));
        for (int p = 0; p < 9; p++) {
            for (int q = 0; q < 9; q++) {
                Probe.due("alike or none", x.way(p, q), p == q ? 0 : Probe.NONE);
                Probe.due("the latest that was", x.wayAt(0), q >= p ? p : p - 1);
            }
        }
    }

    private static void wayStays() {
        HookedCity x = Probe.of(persons(4) + "street a b;street b c;");
        Probe.due("none", x.way(0, 3), Probe.NONE);
        Probe.due("ahead of any that was not NONE", x.wayAt(0), Probe.NONE);
        Probe.due("way", x.way(2, 0), 2);
        int[] none = {x.way(0, 3), x.way(3, 0), x.way(4, 4), x.way(-1, 0), x.way(0, 99)};
        for (int one : none) {
            Probe.due("none", one, Probe.NONE);
        }
        for (int k = 0; k < 3; k++) {
            Probe.due("it stays", x.wayAt(k), 2 - k);
        }
        for (int k : Probe.beyond(3)) {
            Probe.due("none such", x.wayAt(k), Probe.NONE);
        }
        Probe.city(x, "person z bone bone 1;");
        Probe.due("behind another CITY too", x.wayAt(2), 0);
        Probe.due("a shorter one", x.way(0, 0), 0);
        Probe.due("has no more", x.wayAt(1), Probe.NONE);
    }

    /** Promises 28 and 29: the shortest and the longest CARD; none such on either side. */
    private static void cards() {
        HookedCity x = Probe.of("person a bone bone 1;person zyxwvut bone bone 2;person abcdefg bone bone 1;maid m 9;"
            + "street zyxwvut abcdefg;street a abcdefg;done zyxwvut abcdefg;done abcdefg zyxwvut;");
        String[] due = {"a open bare", "zyxwvut in abcdefg", "abcdefg in zyxwvut"};
        for (int p = 0; p < 3; p++) {
            Probe.due("card " + p, Probe.card(x, p).equals(due[p]), true);
        }
        x.days(1);
        String[] then = {"a open bare", "zyxwvut open", "abcdefg in zyxwvut torn"};
        for (int p = 0; p < 3; p++) {
            Probe.due("then card " + p, Probe.card(x, p).equals(then[p]), true);
        }
        Probe.due("the longest", x.card(2), 23);
        Probe.due("its last byte", x.byteAt(22), 'n');
        for (int i : Probe.beyond(23)) {
            Probe.due("none such", x.byteAt(i), Probe.NONE);
        }
        int[] none = {x.card(-1), x.card(3), x.card(Integer.MIN_VALUE), x.card(Integer.MAX_VALUE)};
        for (int one : none) {
            Probe.due("no such one", one, Probe.NONE);
        }
        Probe.due("the latest stays", x.byteAt(22), 'n');
        Probe.due("a button", x.loose(0, 2), 0);
        Probe.due("as it was", x.byteAt(8), 'i');
        Probe.due("a shorter one", x.card(2), 17);
        Probe.due("has no more", x.byteAt(17), Probe.NONE);
        Probe.due("open torn", Probe.card(x, 2).equals("abcdefg open torn"), true);
        Probe.due("it is BARE now", Probe.card(x, 1).equals("zyxwvut open bare"), true);
        x.card(0);
        Probe.city(x, "");
        Probe.due("behind another CITY too", x.byteAt(0), 'a');
        Probe.due("no such one", x.card(0), Probe.NONE);
    }

    /** Promise 27: whatever HOOKS are left, with MAIDS or without. */
    private static void coulds() {
        HookedCity x = Probe.of(TWO.replace("maid may 2;", ""));
        Probe.due("without MAIDS", x.could(0) * 10 + x.could(1), 21);
        x = Probe.of(TWO.replace("maid may 2;", "maid may 1;") + "year 2;july 2;");
        Probe.due("button", x.button(0, 0, 1), 0);
        Probe.due("no HOOKS are left", x.button(0, 1, 0), 1);
        Probe.due("he could", x.could(1), 1);
        Probe.due("one who is not OPEN could not", x.could(0), 0);
        x.days(2);
        Probe.due("bob's loop has PERISHED", x.now(3), 2);
        Probe.due("he is OPEN, but there is no loop", x.could(0), 0);
        StringBuilder text = new StringBuilder(persons(9));
        for (int p = 1; p < 9; p++) {
            text.append("street a ").append((char) ('a' + p)).append(';');
        }
        x = Probe.of(text.toString());
        Probe.due("all others", x.could(0), 510);
        Probe.due("near all others", x.near(0), 510);
        Probe.due("the last one", x.could(8), 1);
    }

    /** Promise 36: two places; what is kept anew takes the place of what was. */
    private static void imagePlaces() {
        HookedCity x = Probe.of(TWO);
        for (int k = 0; k < 2; k++) {
            Probe.due("nothing is kept", x.restore(k), false);
            Probe.due("image", x.image(k), true);
            Probe.due("restore", x.restore(k), true);
            x.days(1 + k);
        }
        Probe.due("DAY", x.now(0), 3);
        Probe.due("the first place", x.restore(0), true);
        Probe.due("DAY", x.now(0), 0);
        Probe.due("the second place", x.restore(1), true);
        Probe.due("DAY", x.now(0), 1);
        Probe.due("kept anew", x.image(0), true);
        x.days(9);
        Probe.due("the first place", x.restore(0), true);
        Probe.due("DAY", x.now(0), 1);
        Probe.due("again", x.restore(0), true);
        Probe.due("DAY", x.now(0), 1);
        HookedCity y = new HookedCity();
        Probe.due("an empty CITY can be kept", y.image(1), true);
        Probe.city(y, TWO);
        Probe.due("an image is no act", y.undo(), Probe.NONE);
        Probe.due("restore", y.restore(1), true);
        Probe.due("nobody", y.count(0) + y.count(1), 0);
        Probe.due("another object's is not kept here", y.restore(0), false);
    }

    /** Promise 37: what is as kept and what stays. */
    private static void restores() {
        String[] sentences = {"number<1", "number=1", "number>0", "loop<3", "with bob", "near bob", "not open or ring"};
        int[] firsts = {0, 1, 1, 1, 1, 0, Probe.NONE};
        for (int i = 0; i < sentences.length; i++) {
            HookedCity x = Probe.of(TWO);
            Probe.due("sentence", Probe.sentence(x, sentences[i]) > 0, true);
            x.image(0);
            for (int j = 0; j < sentences.length; j++) {
                Probe.sentence(x, sentences[j]);
                Probe.due("restore", x.restore(0), true);
                Probe.due("the SENTENCE is as kept: " + sentences[i], x.said(0), firsts[i]);
            }
            Probe.city(x, "");
            Probe.due("restore", x.restore(0), true);
            Probe.due("the SENTENCE is as kept: " + sentences[i], x.said(0), firsts[i]);
        }
        HookedCity x = Probe.of(TWO);
        x.image(0);
        Probe.sentence(x, "open");
        Probe.due("restore", x.restore(0), true);
        Probe.due("no SENTENCE was kept", x.said(Probe.NONE), Probe.NONE);
        x.match();
        x.days(1);
        Probe.due("a restore that is none", x.restore(1), false);
        Probe.due("leaves takes()", x.takes(), 1);
        Probe.due("and the acts", x.undo(), 0);
        x.days(1);
        Probe.tape(x, "spare 4;");
        Probe.due("restore", x.restore(0), true);
        Probe.due("takes() is as ahead of any match()", x.takes(), Probe.NONE);
        Probe.due("matched() stays", x.matched(0), 1);
        Probe.due("nothing can be undone", x.undo(), Probe.NONE);
        Probe.due("the tape stays", x.count(4), 8);
        Probe.due("a CITY", x.city(), 1);
        Probe.due("restore", x.restore(0), true);
        Probe.due("spares as kept", x.now(4), 0);
        Probe.due("she has done nothing", x.maid(0, 1), 0);
        Probe.due("button", x.button(0, 0, 1), 0);
        x.image(1);
        x.days(2);
        x.restore(1);
        Probe.due("what she did today is kept too", x.maid(0, 1), 1);
        Probe.due("how often was buttoned too", x.now(5), 1);
        Probe.due("her last HOOK", x.button(0, 1, 0), 0);
        Probe.due("no more", x.loose(0, 0), 1);
    }

    /** Promise 38. */
    private static void counts() {
        HookedCity x = Probe.of(persons(9) + "maid m 1;maid n 1;maid o 1;year 60;july 60;");
        int[] due = {9, 3, 60, 60, 0};
        for (int what = 0; what < 5; what++) {
            Probe.due("count " + what, x.count(what), due[what]);
        }
        for (int n = 1; n <= 47; n++) {
            x.feed(0, 0, 0, 0, 0);
            Probe.due("bytes of the tape", x.count(4), 20 * n);
        }
        x.feed(0, 0, 0, 0, 0);
        Probe.due("a full tape", x.count(4), 940);
        Probe.due("BARE and OPEN: all", x.now(1) * 1000 + x.now(2), 511511);
    }
}
