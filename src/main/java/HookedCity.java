import java.util.Arrays;
import java.util.NoSuchElementException;

/** A close city of persons who are done up in one another: the buttonhook. */
public final class HookedCity {
    public static final int NONE = -1;

    private static final int MOST_PERSONS = 9;
    private static final int MOST_MAIDS = 3;
    private static final int LAST_DAY = 400;
    private static final int MOST_AT_ONCE = 60;
    private static final int MOST_ACTS = 8;
    private static final int IMAGES = 2;
    private static final int MOST_SEEDS = 30;
    private static final int ODDS_DAYS = 20;

    private static final int NO_TOKEN = 1;
    private static final int BAD_NUMBER = 2;
    private static final int BAD_NAME = 3;
    private static final int TOO_MANY = 4;

    private final Tape tape = new Tape();
    private final State state = new State();
    private final State scratch = new State();
    private final Book pages = new Book();
    private final Matching matching = new Matching();
    private final Slipped slipped = new Slipped();
    private final Path path = new Path();
    private final Label label = new Label();
    private final State[] acts = new State[MOST_ACTS];
    private final Image[] images = new Image[IMAGES];
    private Town town = new Town();
    private Town spareTown = new Town();
    private Sentence rule = new Sentence();
    private Sentence spareRule = new Sentence();
    private int actsKept = 0;
    private int nextAct = 0;
    private boolean matchHolds = false;

    public HookedCity() {
        for (int i = 0; i < MOST_ACTS; i++) {
            acts[i] = new State();
        }
        for (int k = 0; k < IMAGES; k++) {
            images[k] = new Image();
        }
    }

    public int feed(int a, int b, int c, int d, int e) {
        return tape.take(a, b, c, d, e);
    }

    public boolean end(int n) {
        return tape.cut(n);
    }

    public int city() {
        boolean fine = spareTown.read(tape);
        tape.empty();
        if (!fine) {
            return -1 - tape.faultPlace;
        }
        Town old = town;
        town = spareTown;
        spareTown = old;
        state.begin(town);
        rule.clear();
        actsKept = 0;
        matchHolds = false;
        return town.lines;
    }

    public int fault() {
        return tape.faultKind;
    }

    public int person(int p, int what) throws NoSuchElementException {
        if (!isPerson(p) || what < 0 || what > 7) {
            throw new NoSuchElementException();
        }
        switch (what) {
            case 0:
                return town.loops[p];
            case 1:
                return town.buttons[p];
            case 2:
                return town.strengths[p];
            case 3:
                return state.left[p];
            case 4:
                return state.into[p];
            case 5:
                return state.from[p];
            case 6:
                return state.chainOf(p);
            default:
                return state.onRing(p) ? 1 : 0;
        }
    }

    public int maid(int m, int what) {
        if (!isMaid(m) || what < 0 || what > 1) {
            return NONE;
        }
        return what == 0 ? town.hooks[m] : state.used[m];
    }

    public int now(int what) {
        switch (what) {
            case 0:
                return state.day;
            case 1:
                return state.openOnes(town);
            case 2:
                return state.bareOnes(town);
            case 3:
                return state.tornOnes(town);
            case 4:
                return state.spares;
            case 5:
                return state.buttoned;
            case 6:
                return state.perished;
            case 7:
                return town.wearsOn(state.day) ? 1 : 0;
            default:
                return NONE;
        }
    }

    public int button(int m, int p, int q) {
        if (!isMaid(m) || !isPerson(p) || !isPerson(q)) {
            return NONE;
        }
        int why = state.whyNotDoUp(town, m, p, q);
        if (why == 0) {
            keepAct();
            state.doUp(m, p, q);
        }
        return why;
    }

    public int loose(int m, int p) {
        if (!isMaid(m) || !isPerson(p)) {
            return NONE;
        }
        int why = state.whyNotLetGo(town, m, p);
        if (why == 0) {
            keepAct();
            state.letGo(m, p);
        }
        return why;
    }

    public int mend(int p) {
        if (!isPerson(p)) {
            return NONE;
        }
        int why = state.whyNotSew(town, p);
        if (why == 0) {
            keepAct();
            state.sew(town, p);
        }
        return why;
    }

    public int days(int n) {
        if (n < 1 || n > MOST_AT_ONCE) {
            return NONE;
        }
        if (state.day >= LAST_DAY) {
            return 0;
        }
        keepAct();
        return state.passDays(town, n);
    }

    public int undo() {
        if (actsKept <= 0) {
            return NONE;
        }
        nextAct = nextAct > 0 ? nextAct - 1 : MOST_ACTS - 1;
        state.copy(acts[nextAct]);
        actsKept--;
        return actsKept;
    }

    public int with(int p) {
        return isPerson(p) ? state.togetherWith(p) : NONE;
    }

    public int parts() {
        return state.partsOf(town);
    }

    public int quiet() {
        return state.ringOnes(town);
    }

    public int match() {
        matchHolds = true;
        return matching.find(town, state);
    }

    public int matched(int p) {
        return p >= 0 && p < MOST_PERSONS ? matching.mates[p] : NONE;
    }

    public int takes() {
        if (!matchHolds) {
            return NONE;
        }
        int work = matching.workLeft(town, state);
        int hooks = town.allHooks();
        if (work == 0) {
            return 0;
        }
        return hooks > 0 ? (work + hooks - 1) / hooks : NONE;
    }

    public int slips() {
        int fitting = slipped.judge(tape, town.persons);
        tape.empty();
        return fitting;
    }

    public int slipLeast() {
        return slipped.least;
    }

    public int turn() {
        return slipped.next;
    }

    public int way(int p, int q) {
        return isPerson(p) && isPerson(q) ? path.find(town, p, q) : NONE;
    }

    public int wayAt(int k) {
        return k >= 0 && k < path.length ? path.steps[k] : NONE;
    }

    public int lasts(int p) {
        return isPerson(p) ? state.daysLeft(town, p) : NONE;
    }

    public int near(int p) {
        return isPerson(p) ? town.streets[p] : NONE;
    }

    public int could(int p) {
        return isPerson(p) ? state.roomFor(town, p) : NONE;
    }

    public int card(int p) {
        return isPerson(p) ? label.write(town, state, p) : NONE;
    }

    public int byteAt(int i) {
        return i >= 0 && i < label.length ? label.bytes[i] : NONE;
    }

    public int drawn(int n, int seed) {
        if (n < 1 || n > MOST_AT_ONCE || town.maids == 0) {
            return NONE;
        }
        if (state.day >= LAST_DAY) {
            return 0;
        }
        keepAct();
        return state.drawDays(town, n, seed);
    }

    public int odds(int p, int n, int seed) {
        if (!isPerson(p) || n < 1 || n > MOST_SEEDS || town.maids == 0) {
            return NONE;
        }
        int doneUp = 0;
        for (int i = 0; i < n; i++) {
            scratch.copy(state);
            scratch.drawDays(town, ODDS_DAYS, seed + i);
            if (scratch.into[p] != NONE) {
                doneUp++;
            }
        }
        return doneUp;
    }

    public int book(int lives) {
        if (lives != 0 && lives != 1) {
            return -1000;
        }
        boolean fine = pages.read(tape, town);
        tape.empty();
        if (!fine) {
            return -2 - tape.faultPlace;
        }
        scratch.copy(state);
        int wrong = pages.live(town, scratch);
        if (lives == 1) {
            keepAct();
            state.copy(scratch);
        }
        return wrong;
    }

    public int told(int what) {
        return what >= 0 && what < Book.TELLS ? pages.tells[what] : NONE;
    }

    public int sentence() {
        boolean fine = spareRule.read(tape, town);
        tape.empty();
        if (!fine) {
            return -1 - tape.faultPlace;
        }
        Sentence old = rule;
        rule = spareRule;
        spareRule = old;
        return rule.ones;
    }

    public int said(int k) {
        if (rule.isEmpty() || k < NONE) {
            return NONE;
        }
        int whom = rule.whom(town, state);
        return k == NONE ? Integer.bitCount(whom) : bitAt(whom, k);
    }

    public boolean image(int k) {
        if (k < 0 || k >= IMAGES) {
            return false;
        }
        images[k].keep(town, state, rule);
        return true;
    }

    public boolean restore(int k) {
        if (k < 0 || k >= IMAGES || !images[k].full) {
            return false;
        }
        images[k].giveBack(town, state, rule);
        actsKept = 0;
        matchHolds = false;
        return true;
    }

    public int count(int what) {
        switch (what) {
            case 0:
                return town.persons;
            case 1:
                return town.maids;
            case 2:
                return town.year;
            case 3:
                return town.july;
            case 4:
                return tape.length;
            default:
                return NONE;
        }
    }

    private boolean isPerson(int p) {
        return p >= 0 && p < town.persons;
    }

    private boolean isMaid(int m) {
        return m >= 0 && m < town.maids;
    }

    /** What is so now is kept ahead of an act; the ninth pushes the oldest out. */
    private void keepAct() {
        acts[nextAct].copy(state);
        nextAct = nextAct + 1 < MOST_ACTS ? nextAct + 1 : 0;
        actsKept = Math.min(actsKept + 1, MOST_ACTS);
    }

    private static int bitAt(int bits, int k) {
        int ahead = 0;
        for (int p = 0; p < MOST_PERSONS; p++) {
            if ((bits >> p & 1) != 0) {
                if (ahead == k) {
                    return p;
                }
                ahead++;
            }
        }
        return NONE;
    }

    /** The words that no NAME may be; those of the KINDS have their numbers. */
    private enum Word {
        PERSON("person"), MAID("maid"), STREET("street"), DONE("done"),
        SPARE("spare"), YEAR("year"), JULY("july"),
        PEARL("pearl", 0), BONE("bone", 1), BRASS("brass", 2), GLASS("glass", 3),
        BUTTONS("buttons"), LOOSES("looses"), MEND("mend"), DAY("day"),
        OR("or"), AND("and"), NOT("not"),
        OPEN("open"), BARE("bare"), TORN("torn"), RING("ring"),
        WITH("with"), NEAR("near"),
        LOOP("loop"), CHAIN("chain"), NUMBER("number");

        private static final Word[] ALL = values();

        private final long letters;
        private final int kind;

        Word(String text) {
            this(text, NONE);
        }

        Word(String text, int kind) {
            this.letters = packed(text);
            this.kind = kind;
        }

        private static long packed(String text) {
            long letters = 0;
            for (int i = 0; i < text.length(); i++) {
                letters = Tape.longer(letters, text.charAt(i));
            }
            return letters;
        }

        static Word spelt(long letters) {
            for (int i = 0; i < ALL.length; i++) {
                if (ALL[i].letters == letters) {
                    return ALL[i];
                }
            }
            return null;
        }
    }

    /** The tape, and the TOKEN of it that is at hand while it is read. */
    private static final class Tape {
        static final int END = 0;
        static final int BAD = 1;
        static final int WORD = 2;
        static final int NAME = 3;
        static final int NUMBER = 4;
        static final int MARK = 5;

        private static final int MOST_BYTES = 940;
        private static final int FED = 20;
        private static final int MOST_LETTERS = 7;
        private static final int MOST_DIGITS = 3;
        private static final String MARKS = ";<=>()";
        private static final int LETTER_BITS = 5;

        private final int[] bytes = new int[MOST_BYTES];
        private int length = 0;
        private int limit = 0;
        private int next = 0;
        private int place = 0;
        private int token = END;
        private Word word = null;
        private long name = 0;
        private int number = 0;
        private int mark = 0;
        private int faultKind = 0;
        private int faultPlace = 0;

        int take(int a, int b, int c, int d, int e) {
            if (length + FED > MOST_BYTES) {
                return NONE;
            }
            append(a);
            append(b);
            append(c);
            append(d);
            append(e);
            return length;
        }

        private void append(int four) {
            for (int shift = 24; shift >= 0 && length < MOST_BYTES; shift -= 8) {
                bytes[length] = four >>> shift & 255;
                length++;
            }
        }

        boolean cut(int n) {
            if (n < 0 || n > length) {
                return false;
            }
            length = n;
            return true;
        }

        void empty() {
            length = 0;
        }

        /** Reading starts at the first TOKEN, for a text of at most so many bytes. */
        void open(int mostBytes) {
            limit = mostBytes;
            next = 0;
            faultKind = 0;
            faultPlace = 0;
            step();
        }

        void step() {
            while (next < length && (bytes[next] == 32 || bytes[next] == 10)) {
                next++;
            }
            place = next;
            word = null;
            if (length > limit && next >= limit) {
                place = limit;
                token = BAD;
            } else if (next >= length) {
                token = END;
            } else if (isLetter(bytes[next]) || isDigit(bytes[next])) {
                readRun();
            } else {
                mark = bytes[next];
                token = MARKS.indexOf((char) mark) >= 0 ? MARK : BAD;
                next++;
            }
        }

        private void readRun() {
            int letters = 0;
            int digits = 0;
            name = 0;
            number = 0;
            for (; next < length; next++) {
                int sign = bytes[next];
                if (isLetter(sign)) {
                    letters++;
                    name = longer(name, sign);
                } else if (isDigit(sign)) {
                    digits++;
                    number = number * 10 + sign - '0';
                } else {
                    break;
                }
            }
            token = BAD;
            if (digits == 0 && letters <= MOST_LETTERS) {
                word = Word.spelt(name);
                token = word == null ? NAME : WORD;
            } else if (letters == 0 && digits <= MOST_DIGITS) {
                token = NUMBER;
            }
        }

        /** A WORD is held as one number, five bits a letter, so that none is made anew. */
        static long longer(long name, int letter) {
            return name << LETTER_BITS | letter - 'a' + 1;
        }

        /** The i-th letter from the left of seven; 0 where a shorter WORD has none. */
        static int letterOf(long name, int i) {
            int letter = (int) (name >>> (MOST_LETTERS - 1 - i) * LETTER_BITS) & 31;
            return letter == 0 ? 0 : 'a' + letter - 1;
        }

        private static boolean isLetter(int sign) {
            return sign >= 'a' && sign <= 'z';
        }

        private static boolean isDigit(int sign) {
            return sign >= '0' && sign <= '9';
        }

        boolean atEnd() {
            return token == END;
        }

        boolean atMark(char sign) {
            return token == MARK && mark == sign;
        }

        boolean fail(int kind) {
            faultKind = kind;
            faultPlace = place;
            return false;
        }

        boolean pass(char sign) {
            if (!atMark(sign)) {
                return fail(NO_TOKEN);
            }
            step();
            return true;
        }

        /** The NUMBER at hand; NONE, and a FAULT, if it is not as told. */
        int numberAt(int least, int most) {
            if (token != NUMBER) {
                fail(NO_TOKEN);
                return NONE;
            }
            if (number < least || number > most) {
                fail(BAD_NUMBER);
                return NONE;
            }
            return number;
        }
    }

    /** What the text of a CITY tells. */
    private static final class Town {
        private static final int MOST_BYTES = 900;

        private final long[] names = new long[MOST_PERSONS];
        private final int[] loops = new int[MOST_PERSONS];
        private final int[] buttons = new int[MOST_PERSONS];
        private final int[] strengths = new int[MOST_PERSONS];
        private final int[] streets = new int[MOST_PERSONS];
        private final int[] into = new int[MOST_PERSONS];
        private final int[] from = new int[MOST_PERSONS];
        private final long[] maidNames = new long[MOST_MAIDS];
        private final int[] hooks = new int[MOST_MAIDS];
        private int persons = 0;
        private int maids = 0;
        private int lines = 0;
        private int spare = 0;
        private int year = 12;
        private int july = 1;
        private boolean spareTold = false;
        private boolean yearTold = false;
        private boolean julyTold = false;

        private void clear() {
            persons = 0;
            maids = 0;
            spare = 0;
            year = 12;
            july = 1;
            spareTold = false;
            yearTold = false;
            julyTold = false;
            Arrays.fill(streets, 0);
            Arrays.fill(into, NONE);
            Arrays.fill(from, NONE);
        }

        /** What only the first DAY of a new CITY needs is not copied. */
        void copy(Town other) {
            System.arraycopy(other.names, 0, names, 0, MOST_PERSONS);
            System.arraycopy(other.loops, 0, loops, 0, MOST_PERSONS);
            System.arraycopy(other.buttons, 0, buttons, 0, MOST_PERSONS);
            System.arraycopy(other.strengths, 0, strengths, 0, MOST_PERSONS);
            System.arraycopy(other.streets, 0, streets, 0, MOST_PERSONS);
            System.arraycopy(other.maidNames, 0, maidNames, 0, MOST_MAIDS);
            System.arraycopy(other.hooks, 0, hooks, 0, MOST_MAIDS);
            persons = other.persons;
            maids = other.maids;
            year = other.year;
            july = other.july;
        }

        boolean read(Tape tape) {
            clear();
            tape.open(MOST_BYTES);
            for (lines = 0; lines < MOST_BYTES && !tape.atEnd(); lines++) {
                if (!readLine(tape) || !tape.pass(';')) {
                    return false;
                }
            }
            return true;
        }

        private boolean readLine(Tape tape) {
            Word first = tape.word;
            if (first == Word.PERSON) {
                return readPerson(tape);
            }
            if (first == Word.MAID) {
                return readMaid(tape);
            }
            if (first == Word.STREET) {
                return readStreet(tape);
            }
            if (first == Word.DONE) {
                return readDone(tape);
            }
            if (first == Word.SPARE) {
                return readSpare(tape);
            }
            if (first == Word.YEAR) {
                return readYear(tape);
            }
            if (first == Word.JULY) {
                return readJuly(tape);
            }
            return tape.fail(NO_TOKEN);
        }

        private boolean readPerson(Tape tape) {
            if (persons >= MOST_PERSONS) {
                return tape.fail(TOO_MANY);
            }
            tape.step();
            if (!newNameAt(tape)) {
                return false;
            }
            names[persons] = tape.name;
            tape.step();
            loops[persons] = kindAt(tape);
            if (loops[persons] == NONE) {
                return false;
            }
            tape.step();
            buttons[persons] = kindAt(tape);
            if (buttons[persons] == NONE) {
                return false;
            }
            tape.step();
            strengths[persons] = tape.numberAt(1, 9);
            if (strengths[persons] == NONE) {
                return false;
            }
            tape.step();
            persons++;
            return true;
        }

        private boolean readMaid(Tape tape) {
            if (maids >= MOST_MAIDS) {
                return tape.fail(TOO_MANY);
            }
            tape.step();
            if (!newNameAt(tape)) {
                return false;
            }
            maidNames[maids] = tape.name;
            tape.step();
            hooks[maids] = tape.numberAt(1, 9);
            if (hooks[maids] == NONE) {
                return false;
            }
            tape.step();
            maids++;
            return true;
        }

        private boolean readStreet(Tape tape) {
            tape.step();
            int p = personAt(tape);
            if (p == NONE) {
                return false;
            }
            tape.step();
            int q = personAt(tape);
            if (q == NONE) {
                return false;
            }
            if (p == q || (streets[p] >> q & 1) != 0) {
                return tape.fail(BAD_NAME);
            }
            tape.step();
            streets[p] |= 1 << q;
            streets[q] |= 1 << p;
            return true;
        }

        private boolean readDone(Tape tape) {
            tape.step();
            int p = personAt(tape);
            if (p == NONE) {
                return false;
            }
            if (into[p] != NONE) {
                return tape.fail(BAD_NAME);
            }
            tape.step();
            int q = personAt(tape);
            if (q == NONE) {
                return false;
            }
            if (p == q || buttons[p] != loops[q] || from[q] != NONE) {
                return tape.fail(BAD_NAME);
            }
            tape.step();
            into[p] = q;
            from[q] = p;
            return true;
        }

        private boolean readSpare(Tape tape) {
            spare = onceTold(tape, spareTold, 0, 20);
            spareTold = true;
            return spare != NONE;
        }

        private boolean readYear(Tape tape) {
            year = onceTold(tape, yearTold, 2, 60);
            yearTold = true;
            return year != NONE;
        }

        private boolean readJuly(Tape tape) {
            july = onceTold(tape, julyTold, 0, 60);
            julyTold = true;
            return july != NONE;
        }

        private int onceTold(Tape tape, boolean again, int least, int most) {
            if (again) {
                tape.fail(BAD_NAME);
                return NONE;
            }
            tape.step();
            int number = tape.numberAt(least, most);
            if (number != NONE) {
                tape.step();
            }
            return number;
        }

        private boolean newNameAt(Tape tape) {
            if (tape.token != Tape.NAME) {
                return tape.fail(NO_TOKEN);
            }
            if (placeOf(names, persons, tape.name) != NONE || placeOf(maidNames, maids, tape.name) != NONE) {
                return tape.fail(BAD_NAME);
            }
            return true;
        }

        private int kindAt(Tape tape) {
            Word word = tape.word;
            if (word == null || word.kind == NONE) {
                tape.fail(NO_TOKEN);
                return NONE;
            }
            return word.kind;
        }

        /** The PERSON whose NAME is at hand; NONE, and a FAULT, if there is none. */
        int personAt(Tape tape) {
            return nameAt(tape, names, persons);
        }

        int maidAt(Tape tape) {
            return nameAt(tape, maidNames, maids);
        }

        private int nameAt(Tape tape, long[] sort, int many) {
            if (tape.token != Tape.NAME) {
                tape.fail(NO_TOKEN);
                return NONE;
            }
            int found = placeOf(sort, many, tape.name);
            if (found == NONE) {
                tape.fail(BAD_NAME);
            }
            return found;
        }

        private static int placeOf(long[] sort, int many, long name) {
            for (int i = 0; i < many && i < sort.length; i++) {
                if (sort[i] == name) {
                    return i;
                }
            }
            return NONE;
        }

        int everybody() {
            return (1 << persons) - 1;
        }

        int allHooks() {
            int all = 0;
            for (int m = 0; m < maids; m++) {
                all += hooks[m];
            }
            return all;
        }

        boolean fits(int p, int q) {
            return buttons[p] == loops[q];
        }

        boolean isStreet(int p, int q) {
            return (streets[p] >> q & 1) != 0;
        }

        /** On the last number all DAYS are over, and nothing wears any more. */
        boolean wearsOn(int day) {
            return day < LAST_DAY && year > 0 && day % year < july;
        }
    }

    /** What is so in a CITY on a DAY. */
    private static final class State {
        private final int[] left = new int[MOST_PERSONS];
        private final int[] into = new int[MOST_PERSONS];
        private final int[] from = new int[MOST_PERSONS];
        private final int[] used = new int[MOST_MAIDS];
        private int day = 0;
        private int spares = 0;
        private int buttoned = 0;
        private int perished = 0;

        void begin(Town town) {
            System.arraycopy(town.strengths, 0, left, 0, MOST_PERSONS);
            System.arraycopy(town.into, 0, into, 0, MOST_PERSONS);
            System.arraycopy(town.from, 0, from, 0, MOST_PERSONS);
            Arrays.fill(used, 0);
            day = 0;
            spares = town.spare;
            buttoned = 0;
            perished = 0;
        }

        void copy(State other) {
            System.arraycopy(other.left, 0, left, 0, MOST_PERSONS);
            System.arraycopy(other.into, 0, into, 0, MOST_PERSONS);
            System.arraycopy(other.from, 0, from, 0, MOST_PERSONS);
            System.arraycopy(other.used, 0, used, 0, MOST_MAIDS);
            day = other.day;
            spares = other.spares;
            buttoned = other.buttoned;
            perished = other.perished;
        }

        int whyNotDoUp(Town town, int m, int p, int q) {
            return used[m] >= town.hooks[m] ? 1 : whyNotInto(town, p, q);
        }

        private int whyNotInto(Town town, int p, int q) {
            if (p == q) {
                return 2;
            }
            if (!town.isStreet(p, q)) {
                return 3;
            }
            if (!town.fits(p, q)) {
                return 4;
            }
            if (into[p] != NONE) {
                return 5;
            }
            if (from[q] != NONE) {
                return 6;
            }
            return left[q] == 0 ? 7 : 0;
        }

        void doUp(int m, int p, int q) {
            into[p] = q;
            from[q] = p;
            used[m]++;
            buttoned++;
        }

        int whyNotLetGo(Town town, int m, int p) {
            if (used[m] >= town.hooks[m]) {
                return 1;
            }
            return into[p] == NONE ? 2 : 0;
        }

        void letGo(int m, int p) {
            takeOut(p);
            used[m]++;
        }

        private void takeOut(int p) {
            int q = into[p];
            if (q != NONE) {
                from[q] = NONE;
                into[p] = NONE;
            }
        }

        int whyNotSew(Town town, int p) {
            if (left[p] == town.strengths[p]) {
                return 1;
            }
            return spares == 0 ? 2 : 0;
        }

        void sew(Town town, int p) {
            spares--;
            left[p] = town.strengths[p];
        }

        int passDays(Town town, int n) {
            int went = 0;
            while (went < n && day < LAST_DAY) {
                passDay(town);
                went++;
            }
            return went;
        }

        private void passDay(Town town) {
            if (town.wearsOn(day)) {
                for (int q = 0; q < town.persons; q++) {
                    wear(q);
                }
            }
            day++;
            Arrays.fill(used, 0);
        }

        private void wear(int q) {
            int p = from[q];
            if (p == NONE) {
                return;
            }
            left[q]--;
            if (left[q] == 0) {
                perished++;
                takeOut(p);
            }
        }

        int drawDays(Town town, int n, int seed) {
            int went = 0;
            int x = seed;
            while (went < n && day < LAST_DAY) {
                for (int m = 0; m < town.maids; m++) {
                    x = drawAct(town, m, x);
                }
                passDay(town);
                went++;
            }
            return went;
        }

        /** What one MAID does by draws; the answer is the seed behind them. */
        private int drawAct(Town town, int m, int seed) {
            int x = nextSeed(seed);
            boolean looses = draw(x, 4) == 0;
            if (town.persons == 0) {
                return x;
            }
            x = nextSeed(x);
            int p = draw(x, town.persons);
            if (looses) {
                if (whyNotLetGo(town, m, p) == 0) {
                    letGo(m, p);
                }
                return x;
            }
            x = nextSeed(x);
            int q = draw(x, town.persons);
            if (whyNotDoUp(town, m, p, q) == 0) {
                doUp(m, p, q);
            }
            return x;
        }

        private static int nextSeed(int x) {
            return x * 1103515245 + 12345;
        }

        private static int draw(int x, int n) {
            return n > 0 ? (x >>> 8) % n : 0;
        }

        int chainOf(int p) {
            int behind = 0;
            int q = into[p];
            while (q != NONE && q != p && behind < MOST_PERSONS) {
                behind++;
                q = into[q];
            }
            return behind;
        }

        boolean onRing(int p) {
            int q = into[p];
            for (int i = 0; i < MOST_PERSONS && q != NONE && q != p; i++) {
                q = into[q];
            }
            return q == p;
        }

        int togetherWith(int p) {
            int bits = 1 << p;
            int q = into[p];
            for (int i = 0; i < MOST_PERSONS && q != NONE; i++) {
                bits |= 1 << q;
                q = into[q];
            }
            q = from[p];
            for (int i = 0; i < MOST_PERSONS && q != NONE; i++) {
                bits |= 1 << q;
                q = from[q];
            }
            return bits;
        }

        /** A part is counted at the first PERSON in it. */
        int partsOf(Town town) {
            int parts = 0;
            for (int p = 0; p < town.persons; p++) {
                int ahead = (1 << p) - 1;
                if ((togetherWith(p) & ahead) == 0) {
                    parts++;
                }
            }
            return parts;
        }

        /** Each button and each loop holds once, so only on a RING does a loosed button part nobody. */
        int ringOnes(Town town) {
            int bits = 0;
            for (int p = 0; p < town.persons; p++) {
                bits |= onRing(p) ? 1 << p : 0;
            }
            return bits;
        }

        int openOnes(Town town) {
            int bits = 0;
            for (int p = 0; p < town.persons; p++) {
                bits |= into[p] == NONE ? 1 << p : 0;
            }
            return bits;
        }

        int bareOnes(Town town) {
            int bits = 0;
            for (int p = 0; p < town.persons; p++) {
                bits |= from[p] == NONE ? 1 << p : 0;
            }
            return bits;
        }

        int tornOnes(Town town) {
            int bits = 0;
            for (int p = 0; p < town.persons; p++) {
                bits |= left[p] == 0 ? 1 << p : 0;
            }
            return bits;
        }

        int roomFor(Town town, int p) {
            int bits = 0;
            for (int q = 0; q < town.persons; q++) {
                bits |= whyNotInto(town, p, q) == 0 ? 1 << q : 0;
            }
            return bits;
        }

        int daysLeft(Town town, int p) {
            if (from[p] == NONE) {
                return NONE;
            }
            int rest = left[p];
            for (int d = day; d < LAST_DAY; d++) {
                rest -= town.wearsOn(d) ? 1 : 0;
                if (rest == 0) {
                    return d - day + 1;
                }
            }
            return NONE;
        }
    }

    /** A BOOK, and what was told of the latest one that had no FAULT. */
    private static final class Book {
        static final int TELLS = 4;

        private static final int MOST_BYTES = 400;
        private static final int MOST_LINES = 40;
        private static final int WHY_LOOSING = 10;
        private static final int WHY_MENDING = 20;
        private static final int FEWER_DAYS = 31;

        private final Word[] acts = new Word[MOST_LINES];
        private final int[] whose = new int[MOST_LINES];
        private final int[] first = new int[MOST_LINES];
        private final int[] second = new int[MOST_LINES];
        private final int[] tells = {NONE, NONE, NONE, NONE};
        private int lines = 0;

        boolean read(Tape tape, Town town) {
            tape.open(MOST_BYTES);
            for (lines = 0; lines <= MOST_LINES && !tape.atEnd(); lines++) {
                if (!readLine(tape, town) || !tape.pass(';')) {
                    return false;
                }
            }
            return true;
        }

        private boolean readLine(Tape tape, Town town) {
            Word start = tape.word;
            boolean byMaid = start != Word.MEND && start != Word.DAY;
            int m = byMaid ? town.maidAt(tape) : NONE;
            if (byMaid && m == NONE) {
                return false;
            }
            if (lines >= MOST_LINES) {
                return tape.fail(TOO_MANY);
            }
            tape.step();
            whose[lines] = m;
            acts[lines] = start;
            if (byMaid) {
                return readDeed(tape, town);
            }
            return start == Word.DAY ? readDays(tape) : readFirst(tape, town);
        }

        private boolean readDeed(Tape tape, Town town) {
            Word deed = tape.word;
            if (deed != Word.BUTTONS && deed != Word.LOOSES) {
                return tape.fail(NO_TOKEN);
            }
            acts[lines] = deed;
            tape.step();
            if (!readFirst(tape, town)) {
                return false;
            }
            if (deed == Word.LOOSES) {
                return true;
            }
            second[lines] = town.personAt(tape);
            if (second[lines] == NONE) {
                return false;
            }
            tape.step();
            return true;
        }

        private boolean readFirst(Tape tape, Town town) {
            first[lines] = town.personAt(tape);
            if (first[lines] == NONE) {
                return false;
            }
            tape.step();
            return true;
        }

        private boolean readDays(Tape tape) {
            first[lines] = tape.numberAt(1, MOST_AT_ONCE);
            if (first[lines] == NONE) {
                return false;
            }
            tape.step();
            return true;
        }

        /** LINE by LINE up to one that is WRONG: that one, or NONE. */
        int live(Town town, State state) {
            int why = 0;
            int line = 0;
            for (; line < lines; line++) {
                why = liveLine(town, state, line);
                if (why != 0) {
                    break;
                }
            }
            tells[0] = why;
            tells[1] = line;
            tells[2] = state.day;
            tells[3] = state.openOnes(town);
            return why == 0 ? NONE : line;
        }

        private int liveLine(Town town, State state, int line) {
            Word act = acts[line];
            int m = whose[line];
            int p = first[line];
            if (act == Word.BUTTONS) {
                return liveButtons(town, state, line);
            }
            if (act == Word.LOOSES) {
                int why = state.whyNotLetGo(town, m, p);
                if (why == 0) {
                    state.letGo(m, p);
                }
                return why == 0 ? 0 : WHY_LOOSING + why;
            }
            if (act == Word.MEND) {
                int why = state.whyNotSew(town, p);
                if (why == 0) {
                    state.sew(town, p);
                }
                return why == 0 ? 0 : WHY_MENDING + why;
            }
            if (state.day + p > LAST_DAY) {
                return FEWER_DAYS;
            }
            state.passDays(town, p);
            return 0;
        }

        private int liveButtons(Town town, State state, int line) {
            int why = state.whyNotDoUp(town, whose[line], first[line], second[line]);
            if (why == 0) {
                state.doUp(whose[line], first[line], second[line]);
            }
            return why;
        }
    }

    /** A SENTENCE, held with each 'and', 'or' and 'not' behind what it joins. */
    private static final class Sentence {
        private static final int MOST_BYTES = 200;
        private static final int MOST_ONES = 20;
        private static final int DEEPEST = 8;
        private static final int MOST_STEPS = 2 * MOST_ONES;

        private final Word[] steps = new Word[MOST_STEPS];
        private final int[] signs = new int[MOST_STEPS];
        private final int[] values = new int[MOST_STEPS];
        private final int[] stack = new int[MOST_ONES];
        private int size = 0;
        private int ones = 0;

        void clear() {
            size = 0;
            ones = 0;
        }

        boolean isEmpty() {
            return size == 0;
        }

        void copy(Sentence other) {
            size = other.size;
            ones = other.ones;
            for (int i = 0; i < size; i++) {
                steps[i] = other.steps[i];
                signs[i] = other.signs[i];
                values[i] = other.values[i];
            }
        }

        boolean read(Tape tape, Town town) {
            clear();
            tape.open(MOST_BYTES);
            if (!readCond(tape, town, 1)) {
                return false;
            }
            return tape.atEnd() || tape.fail(NO_TOKEN);
        }

        private boolean readCond(Tape tape, Town town, int depth) {
            if (!readAll(tape, town, depth)) {
                return false;
            }
            for (int i = 0; i < MOST_ONES && tape.word == Word.OR; i++) {
                tape.step();
                if (!readAll(tape, town, depth)) {
                    return false;
                }
                add(Word.OR, 0, 0);
            }
            return true;
        }

        private boolean readAll(Tape tape, Town town, int depth) {
            if (!readOne(tape, town, depth)) {
                return false;
            }
            for (int i = 0; i < MOST_ONES && tape.word == Word.AND; i++) {
                tape.step();
                if (!readOne(tape, town, depth)) {
                    return false;
                }
                add(Word.AND, 0, 0);
            }
            return true;
        }

        private boolean readOne(Tape tape, Town town, int depth) {
            Word first = tape.word;
            boolean bracket = tape.atMark('(');
            if (!bracket && !startsOne(first)) {
                return tape.fail(NO_TOKEN);
            }
            if (ones >= MOST_ONES || depth > DEEPEST) {
                return tape.fail(TOO_MANY);
            }
            ones++;
            tape.step();
            if (bracket) {
                return readCond(tape, town, depth + 1) && tape.pass(')');
            }
            if (first == Word.NOT) {
                if (!readOne(tape, town, depth + 1)) {
                    return false;
                }
                add(first, 0, 0);
                return true;
            }
            if (first == Word.WITH || first == Word.NEAR) {
                return readOther(tape, town, first);
            }
            if (isMeasure(first)) {
                return readMeasure(tape, first);
            }
            add(first, 0, 0);
            return true;
        }

        private static boolean startsOne(Word word) {
            return word == Word.NOT || word == Word.OPEN || word == Word.BARE || word == Word.TORN
                    || word == Word.RING || word == Word.WITH || word == Word.NEAR || isMeasure(word);
        }

        private static boolean isMeasure(Word word) {
            return word == Word.LOOP || word == Word.CHAIN || word == Word.NUMBER;
        }

        private boolean readOther(Tape tape, Town town, Word what) {
            int p = town.personAt(tape);
            if (p == NONE) {
                return false;
            }
            tape.step();
            add(what, 0, p);
            return true;
        }

        private boolean readMeasure(Tape tape, Word what) {
            int sign = tape.mark;
            if (!tape.atMark('<') && !tape.atMark('=') && !tape.atMark('>')) {
                return tape.fail(NO_TOKEN);
            }
            tape.step();
            int number = tape.numberAt(0, 999);
            if (number == NONE) {
                return false;
            }
            tape.step();
            add(what, sign, number);
            return true;
        }

        private void add(Word step, int sign, int value) {
            if (size < MOST_STEPS) {
                steps[size] = step;
                signs[size] = sign;
                values[size] = value;
                size++;
            }
        }

        /** PERSONS of whom it may be said, as bits: each step is taken for all of them at once. */
        int whom(Town town, State state) {
            int top = 0;
            for (int i = 0; i < size; i++) {
                Word step = steps[i];
                if (step == Word.NOT) {
                    if (top > 0) {
                        stack[top - 1] = town.everybody() & ~stack[top - 1];
                    }
                } else if (step == Word.AND || step == Word.OR) {
                    if (top > 1) {
                        top--;
                        stack[top - 1] = joined(step, stack[top - 1], stack[top]);
                    }
                } else if (top < MOST_ONES) {
                    stack[top] = bitsOf(town, state, i);
                    top++;
                }
            }
            return top > 0 ? stack[0] : 0;
        }

        private static int joined(Word step, int first, int second) {
            return step == Word.AND ? first & second : first | second;
        }

        private int bitsOf(Town town, State state, int i) {
            Word what = steps[i];
            if (what == Word.OPEN) {
                return state.openOnes(town);
            }
            if (what == Word.BARE) {
                return state.bareOnes(town);
            }
            if (what == Word.TORN) {
                return state.tornOnes(town);
            }
            if (what == Word.RING) {
                return state.ringOnes(town);
            }
            int value = values[i];
            if (what == Word.WITH || what == Word.NEAR) {
                if (value < 0 || value >= town.persons) {
                    return 0;
                }
                return what == Word.WITH ? state.togetherWith(value) : town.streets[value];
            }
            int bits = 0;
            for (int p = 0; p < town.persons; p++) {
                bits |= holds(measure(state, what, p), signs[i], value) ? 1 << p : 0;
            }
            return bits;
        }

        private static int measure(State state, Word what, int p) {
            if (what == Word.LOOP) {
                return state.left[p];
            }
            return what == Word.CHAIN ? state.chainOf(p) : p;
        }

        private static boolean holds(int measure, int sign, int number) {
            if (sign == '<') {
                return measure < number;
            }
            return sign == '=' ? measure == number : measure > number;
        }
    }

    /** The most that can be done up at once, by the latest match(). */
    private static final class Matching {
        private final int[] mates = new int[MOST_PERSONS];
        private final int[] choices = new int[MOST_PERSONS];
        private final int[] holders = new int[MOST_PERSONS];
        private int persons = 0;
        private int tried = 0;

        Matching() {
            Arrays.fill(mates, NONE);
        }

        int find(Town town, State state) {
            persons = town.persons;
            Arrays.fill(mates, NONE);
            for (int p = 0; p < persons; p++) {
                choices[p] = choicesOf(town, state, p);
            }
            int free = town.everybody();
            int most = mostFrom(0, free);
            int missing = most;
            for (int p = 0; p < persons; p++) {
                mates[p] = firstFor(p, free, missing);
                if (mates[p] != NONE) {
                    free &= ~(1 << mates[p]);
                    missing--;
                }
            }
            return most;
        }

        private static int choicesOf(Town town, State state, int p) {
            int bits = 0;
            for (int q = 0; q < town.persons; q++) {
                if (town.isStreet(p, q) && town.fits(p, q) && state.left[q] > 0) {
                    bits |= 1 << q;
                }
            }
            return bits;
        }

        /** The least other one with whom the rest still makes up what is missing. */
        private int firstFor(int p, int free, int missing) {
            int open = choices[p] & free;
            for (int q = 0; q < persons && missing > 0; q++) {
                if ((open >> q & 1) != 0 && mostFrom(p + 1, free & ~(1 << q)) == missing - 1) {
                    return q;
                }
            }
            return NONE;
        }

        /** How many of the PERSONS from one on can be done up in loops that are free. */
        private int mostFrom(int start, int free) {
            Arrays.fill(holders, NONE);
            int most = 0;
            for (int p = start; p < persons; p++) {
                tried = 0;
                if (finds(p, free, 0)) {
                    most++;
                }
            }
            return most;
        }

        /** A loop for p, others being moved for it; each is tried once, so it goes no deeper than there are loops. */
        private boolean finds(int p, int free, int depth) {
            if (depth > MOST_PERSONS) {
                return false;
            }
            for (int q = 0; q < persons; q++) {
                if ((choices[p] & free & ~tried & 1 << q) != 0) {
                    tried |= 1 << q;
                    if (holders[q] == NONE || finds(holders[q], free, depth + 1)) {
                        holders[q] = p;
                        return true;
                    }
                }
            }
            return false;
        }

        /** HOOKS from what is so to what was found. */
        int workLeft(Town town, State state) {
            int work = 0;
            for (int p = 0; p < town.persons; p++) {
                if (state.into[p] != mates[p]) {
                    work += state.into[p] != NONE ? 1 : 0;
                    work += mates[p] != NONE ? 1 : 0;
                }
            }
            return work;
        }
    }

    /** Where a row slipped by one, by the latest tape that some number fits. */
    private static final class Slipped {
        private static final int FOUND_OPEN = 255;
        private static final int MOST_PAIRS = 8;

        private int least = NONE;
        private int next = NONE;

        int judge(Tape tape, int persons) {
            if (!isAsTold(tape, persons)) {
                return NONE;
            }
            int fitting = 0;
            for (int s = 0; s <= persons; s++) {
                fitting |= fits(tape, persons, s) ? 1 << s : 0;
            }
            if (fitting != 0) {
                least = Integer.numberOfTrailingZeros(fitting);
                next = bestToTurn(fitting, persons);
            }
            return Integer.bitCount(fitting);
        }

        private static boolean isAsTold(Tape tape, int persons) {
            if (tape.length < 2 || tape.length > 2 * MOST_PAIRS || tape.length % 2 != 0) {
                return false;
            }
            for (int i = 0; i + 1 < tape.length; i += 2) {
                int found = tape.bytes[i + 1];
                if (tape.bytes[i] >= persons || found >= persons && found != FOUND_OPEN) {
                    return false;
                }
            }
            return true;
        }

        private static boolean fits(Tape tape, int persons, int s) {
            for (int i = 0; i + 1 < tape.length; i += 2) {
                if (tape.bytes[i + 1] != foundOf(tape.bytes[i], persons, s)) {
                    return false;
                }
            }
            return true;
        }

        private static int foundOf(int p, int persons, int s) {
            int q = p < s ? p + 1 : p + 2;
            return q < persons ? q : FOUND_OPEN;
        }

        private static int bestToTurn(int fitting, int persons) {
            int best = NONE;
            int fewest = 0;
            for (int p = 0; p < persons; p++) {
                int worst = mostLeft(fitting, persons, p);
                if (best == NONE || worst < fewest) {
                    best = p;
                    fewest = worst;
                }
            }
            return best;
        }

        /** A button tells apart the numbers up to p from those behind it, if both would not find it OPEN. */
        private static int mostLeft(int fitting, int persons, int p) {
            int all = Integer.bitCount(fitting);
            if (foundOf(p, persons, p) == foundOf(p, persons, p + 1)) {
                return all;
            }
            int upTo = Integer.bitCount(fitting & (1 << p + 1) - 1);
            return Math.max(upTo, all - upTo);
        }
    }

    /** The latest WAY by streets. */
    private static final class Path {
        private final int[] steps = new int[MOST_PERSONS];
        private final int[] layers = new int[MOST_PERSONS];
        private int length = 0;

        int find(Town town, int p, int q) {
            int far = layersUpTo(town, p, q);
            if (far == NONE) {
                return NONE;
            }
            steps[0] = p;
            for (int i = 1; i <= far; i++) {
                steps[i] = firstOf(town.streets[steps[i - 1]] & layers[far - i]);
            }
            length = far + 1;
            return far;
        }

        /** Layers of PERSONS who are so many streets from q, until p is in one: which one. */
        private int layersUpTo(Town town, int p, int q) {
            int reached = 0;
            int layer = 1 << q;
            for (int far = 0; far < MOST_PERSONS && layer != 0; far++) {
                layers[far] = layer;
                if ((layer >> p & 1) != 0) {
                    return far;
                }
                reached |= layer;
                layer = besides(town, layer) & ~reached;
            }
            return NONE;
        }

        private static int besides(Town town, int bits) {
            int beside = 0;
            for (int p = 0; p < town.persons; p++) {
                beside |= (bits >> p & 1) != 0 ? town.streets[p] : 0;
            }
            return beside;
        }

        private static int firstOf(int bits) {
            return bits == 0 ? 0 : Integer.numberOfTrailingZeros(bits);
        }
    }

    /** The latest CARD. */
    private static final class Label {
        /** Two NAMES of seven letters, ' in ' and ' torn'. */
        private static final int MOST_BYTES = 23;

        private final int[] bytes = new int[MOST_BYTES];
        private int length = 0;

        int write(Town town, State state, int p) {
            length = 0;
            putName(town.names[p]);
            int q = state.into[p];
            if (q == NONE) {
                putText(" open");
            } else {
                putText(" in ");
                putName(town.names[q]);
            }
            if (state.left[p] == 0) {
                putText(" torn");
            } else if (state.from[p] == NONE) {
                putText(" bare");
            }
            return length;
        }

        private void putName(long name) {
            for (int i = 0; i < Tape.MOST_LETTERS; i++) {
                int letter = Tape.letterOf(name, i);
                if (letter != 0) {
                    put(letter);
                }
            }
        }

        private void putText(String text) {
            for (int i = 0; i < text.length(); i++) {
                put(text.charAt(i));
            }
        }

        private void put(int sign) {
            if (length < MOST_BYTES) {
                bytes[length] = sign;
                length++;
            }
        }
    }

    /** A CITY, what was so and the SENTENCE, kept in a place. */
    private static final class Image {
        private final Town town = new Town();
        private final State state = new State();
        private final Sentence rule = new Sentence();
        private boolean full = false;

        void keep(Town fromTown, State fromState, Sentence fromRule) {
            town.copy(fromTown);
            state.copy(fromState);
            rule.copy(fromRule);
            full = true;
        }

        void giveBack(Town toTown, State toState, Sentence toRule) {
            toTown.copy(town);
            toState.copy(state);
            toRule.copy(rule);
        }
    }
}
