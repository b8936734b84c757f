/** Edges of the rules of the DAY: why not, HOOKS, spares, wear, what PERISHES, DAY 399 and 400, draws, undo. */
public final class DayEdgeTest {
    private static final String PAIR = "person ann bone bone 1;person bob bone bone 9;street ann bob;";
    private static final int[][] BOTH = new int[8][8];

    public static void main(String[] args) {
        whyNotButton();
        whyNotLoose();
        whyNotMend();
        hooks();
        spares();
        months();
        howManyDays();
        lastDays();
        overThen();
        strengths();
        ringPerishes();
        bareDoesNotWear();
        counters();
        lasting();
        drawnDays();
        drawnWhoever();
        drawnByHooks();
        oddsEdges();
        undoEdges();
        undoRound();
        Probe.finish();
    }

    private static HookedCity at(String text, int day) {
        HookedCity x = Probe.of(text);
        int rest = day;
        for (; rest > 60; rest -= 60) {
            x.days(60);
        }
        if (rest > 0) {
            x.days(rest);
        }
        Probe.due("the DAY", x.now(0), day);
        return x;
    }

    /** Every MAID, PERSON and other one of a CITY in which any two reasons that can come together do: the least. */
    private static void whyNotButton() {
        String text = "person aa bone bone 1;person ab bone bone 1;person ac bone pearl 9;person ad pearl bone 9;"
            + "person ae bone bone 9;person af pearl pearl 1;person ag bone bone 9;person ah bone pearl 1;"
            + "person ai bone bone 9;maid may 1;maid sue 9;street aa ab;street aa ac;street ab ae;street ae aa;street ac ad;"
            + "street ae ag;street ag ai;street ac af;street ac ah;street ah ae;street ai aa;street ad ab;street af ad;"
            + "street ab ac;done aa ab;done ac af;done ad ah;done ai aa;year 2;july 1;";
        for (int m = 0; m < 2; m++) {
            HookedCity x = Probe.of(text);
            x.days(1);
            x.button(0, 8, 6);
            x.button(1, 0, 2);
            x.button(1, 4, 6);
            for (int p = 0; p < 9; p++) {
                for (int q = 0; q < 9; q++) {
                    Probe.due("button " + m + " " + p + " " + q, tried(x, m, p, q), leastWhy(x, m, p, q));
                }
            }
        }
        for (int i = 1; i <= 7; i++) {
            for (int j = i + 1; j <= 7; j++) {
                // nothing is in a loop that has PERISHED
                boolean never = i == 6 && j == 7;
                Probe.due("both " + i + " and " + j + " came together", BOTH[i][j] > 0, !never);
            }
            Probe.due("why " + i + " came", BOTH[i][i] > 0, true);
        }
        Probe.due("some could be", BOTH[0][0] > 0, true);
    }

    private static int tried(HookedCity x, int m, int p, int q) {
        int why = x.button(m, p, q);
        if (why == 0) {
            x.undo();
        }
        return why;
    }

    private static int leastWhy(HookedCity x, int m, int p, int q) {
        boolean[] why = new boolean[8];
        why[1] = x.maid(m, 1) >= x.maid(m, 0);
        why[2] = p == q;
        why[3] = (x.near(p) >> q & 1) == 0;
        why[4] = x.person(p, 1) != x.person(q, 0);
        why[5] = x.person(p, 4) != Probe.NONE;
        why[6] = x.person(q, 5) != Probe.NONE;
        why[7] = x.person(q, 3) == 0;
        int least = 0;
        for (int i = 7; i >= 1; i--) {
            least = why[i] ? i : least;
            for (int j = i; j <= 7; j++) {
                BOTH[i][j] += why[i] && why[j] ? 1 : 0;
            }
        }
        BOTH[0][0] += least == 0 ? 1 : 0;
        return least;
    }

    private static void whyNotLoose() {
        HookedCity x = Probe.of(PAIR + "maid may 1;maid sue 2;done ann bob;");
        Probe.due("OPEN", x.loose(0, 1), 2);
        Probe.due("a refusal takes no HOOK", x.maid(0, 1), 0);
        Probe.due("he is", x.loose(0, 0), 0);
        Probe.due("both: the least", x.loose(0, 0), 1);
        Probe.due("HOOKS alone", x.button(1, 0, 1), 0);
        Probe.due("HOOKS alone", x.loose(0, 0), 1);
        Probe.due("OPEN alone", x.loose(1, 1), 2);
        Probe.due("by another MAID", x.loose(1, 0), 0);
    }

    private static void whyNotMend() {
        HookedCity x = Probe.of(PAIR + "done bob ann;done ann bob;year 2;july 2;spare 1;");
        Probe.due("all its STRENGTH", x.mend(1), 1);
        x.days(1);
        Probe.due("one less is less", x.mend(1), 0);
        Probe.due("all of it again", x.person(1, 3), 9);
        Probe.due("both: the least", x.mend(1), 1);
        Probe.due("no spare alone", x.mend(0), 2);
        Probe.due("it stays PERISHED", x.person(0, 3), 0);
    }

    /** HOOKS 1 to 9 a DAY: as many acts as that, buttoning and loosing alike, and not one more. */
    private static void hooks() {
        for (int many = 1; many <= 9; many++) {
            HookedCity x = Probe.of(PAIR + "july 0;maid may " + many + ";maid sue 1;");
            for (int round = 0; round < 2; round++) {
                for (int i = 0; i < many; i++) {
                    boolean in = x.person(0, 4) != Probe.NONE;
                    Probe.due("act " + i + " of " + many, in ? x.loose(0, 0) : x.button(0, 0, 1), 0);
                    Probe.due("how much she did", x.maid(0, 1), i + 1);
                }
                Probe.due("one more", x.loose(0, 0), 1);
                Probe.due("one more", x.button(0, 0, 1), 1);
                Probe.due("the other one's HOOK is her own", x.maid(1, 1), 0);
                Probe.due("next DAY", x.days(1), 1);
                Probe.due("no MAID has done anything", x.maid(0, 1), 0);
            }
        }
    }

    /** Spares 0 to 20: each mends once, and the last one too. */
    private static void spares() {
        int[] all = {0, 1, 2, 19, 20};
        for (int many : all) {
            HookedCity x = Probe.of(PAIR + "done ann bob;year 2;july 2;spare " + many + ";");
            for (int i = 0; i < many; i++) {
                x.days(1);
                Probe.due("spares", x.now(4), many - i);
                Probe.due("mended", x.mend(1), 0);
            }
            x.days(1);
            Probe.due("none left", x.now(4), 0);
            Probe.due("no spare", x.mend(1), 2);
            Probe.due("still none", x.now(4), 0);
        }
    }

    /** A DAY's number modulo 'year' is below 'july': every DAY of some months. */
    private static void months() {
        int[] years = {2, 3, 12, 59, 60};
        int[] julys = {0, 1, 2, 11, 12, 13, 58, 59, 60};
        for (int year : years) {
            for (int july : julys) {
                for (int start = 0; start < 400; start += 200) {
                    HookedCity x = at("year " + year + ";july " + july + ";", start);
                    for (int day = start; day < start + 200; day++) {
                        Probe.due("wear on " + day + " of " + year + ", " + july, x.now(7), day % year < july ? 1 : 0);
                        x.days(1);
                    }
                }
            }
        }
    }

    private static void howManyDays() {
        int[] none = {0, -1, 61, 62, 100, 256, 400, Integer.MIN_VALUE, Integer.MAX_VALUE};
        HookedCity x = new HookedCity();
        for (int n : none) {
            Probe.due("days " + n, x.days(n), Probe.NONE);
            Probe.due("none went by", x.now(0), 0);
        }
        Probe.due("nothing can be undone", x.undo(), Probe.NONE);
        int day = 0;
        for (int n = 1; n <= 20; n++) {
            Probe.due("days " + n, x.days(n), n);
            day += n;
            Probe.due("DAY", x.now(0), day);
        }
        Probe.due("days 60", new HookedCity().days(60), 60);
        Probe.due("days 59", new HookedCity().days(59), 59);
    }

    /** DAY 399 goes, 400 does not: how many did. */
    private static void lastDays() {
        for (int left = 0; left <= 61; left++) {
            int[] asked = {1, left - 1, left, left + 1, 60};
            for (int n : asked) {
                if (n < 1 || n > 60) {
                    continue;
                }
                HookedCity x = at("maid may 1;", 400 - left);
                Probe.due("days " + n + " of " + left, x.days(n), Math.min(n, left));
                Probe.due("DAY", x.now(0), 400 - left + Math.min(n, left));
                x = at("maid may 1;", 400 - left);
                Probe.due("drawn " + n + " of " + left, x.drawn(n, 3), Math.min(n, left));
                Probe.due("DAY", x.now(0), 400 - left + Math.min(n, left));
            }
        }
    }

    /** On DAY 400 acts go on, by the HOOKS of that DAY; no DAY does, and none that went not can be undone. */
    private static void overThen() {
        HookedCity x = at(PAIR + "maid may 2;year 2;july 2;spare 1;done bob ann;", 400);
        Probe.due("ann's loop has PERISHED once", x.now(6), 1);
        Probe.due("no DAY", x.days(60), 0);
        Probe.due("no DAY", x.drawn(60, 1), 0);
        Probe.due("not as told", x.days(61), Probe.NONE);
        Probe.due("not as told", x.drawn(61, 1), Probe.NONE);
        Probe.due("nothing wears when all DAYS are over", x.now(7), 0);
        Probe.due("mend", x.mend(0), 0);
        Probe.due("button", x.button(0, 1, 0), 0);
        Probe.due("button", x.button(0, 0, 1), 0);
        Probe.due("HOOKS", x.loose(0, 0), 1);
        Probe.due("it will not PERISH by DAY 400", x.lasts(0), Probe.NONE);
        Probe.due("DAYS that went not are no acts", x.undo(), 7);
        Probe.due("it was the last button", x.person(0, 4), Probe.NONE);
        Probe.due("DAY", x.now(0), 400);
    }

    /** Each STRENGTH from 1 to 9: so many DAYS of wear, and on the last the loop PERISHES and the button is out. */
    private static void strengths() {
        for (int strength = 1; strength <= 9; strength++) {
            HookedCity x = Probe.of("person ann bone bone 9;person bob bone bone " + strength + ";done ann bob;year 2;july 2;");
            for (int day = 0; day < strength; day++) {
                Probe.due("left", x.person(1, 3), strength - day);
                Probe.due("his button is in it", x.person(0, 4), 1);
                Probe.due("not PERISHED", x.now(3), 0);
                Probe.due("LASTS", x.lasts(1), strength - day);
                x.days(1);
            }
            Probe.due("0 is left", x.person(1, 3), 0);
            Probe.due("the button is out", x.person(0, 4), Probe.NONE);
            Probe.due("nothing is in it", x.person(1, 5), Probe.NONE);
            Probe.due("PERISHED", x.now(3), 2);
            Probe.due("once", x.now(6), 1);
            x.days(9);
            Probe.due("no less than 0", x.person(1, 3), 0);
            Probe.due("once only", x.now(6), 1);
        }
    }

    /** All loops of a RING of nine PERISH on one DAY; one whose loop is stronger keeps what is in it. */
    private static void ringPerishes() {
        StringBuilder text = new StringBuilder();
        for (int p = 0; p < 9; p++) {
            text.append("person ").append((char) ('a' + p)).append(" bone bone ").append(p == 8 ? 2 : 1).append(';');
        }
        for (int p = 0; p < 9; p++) {
            text.append("done ").append((char) ('a' + p)).append(' ').append((char) ('a' + (p + 1) % 9)).append(';');
        }
        HookedCity x = Probe.of(text + "year 2;july 2;");
        x.days(1);
        Probe.due("eight PERISHED", x.now(3), 255);
        Probe.due("eight times", x.now(6), 8);
        Probe.due("all but h are OPEN", x.now(1), 511 - 128);
        Probe.due("all but i are BARE", x.now(2), 255);
        x.days(1);
        Probe.due("the ninth", x.now(3), 511);
        Probe.due("nine times", x.now(6), 9);
        Probe.due("all are OPEN", x.now(1), 511);
    }

    private static void bareDoesNotWear() {
        HookedCity x = Probe.of(PAIR + "maid may 9;year 2;july 2;");
        x.days(60);
        Probe.due("BARE loops have all their STRENGTH", x.person(0, 3) * 10 + x.person(1, 3), 19);
        x.button(0, 0, 1);
        x.days(1);
        x.loose(0, 0);
        x.days(60);
        Probe.due("it wore while something was in it", x.person(1, 3), 8);
        x.button(0, 0, 1);
        x.loose(0, 0);
        x.days(1);
        Probe.due("only what is in it when the DAY goes", x.person(1, 3), 8);
    }

    /** How often was buttoned, how often a loop PERISHED: so far, by whatever act, and undone with it. */
    private static void counters() {
        HookedCity x = Probe.of(PAIR + "maid may 9;year 2;july 2;spare 20;done bob ann;");
        Probe.due("'done' is not buttoned", x.now(5), 0);
        x.days(1);
        Probe.due("PERISHED", x.now(6), 1);
        x.mend(0);
        Probe.due("button", x.button(0, 1, 0), 0);
        Probe.due("refused", x.button(0, 1, 0), 5);
        Probe.due("buttoned", x.now(5), 1);
        x.days(1);
        Probe.due("PERISHED again", x.now(6), 2);
        Probe.due("a BOOK", Probe.book(x, "mend ann;may buttons bob ann;may buttons ann bob;day 1;", 1), Probe.NONE);
        Probe.due("buttoned by a BOOK", x.now(5), 3);
        Probe.due("PERISHED in a BOOK", x.now(6), 3);
        Probe.due("a BOOK that is judged", Probe.book(x, "mend ann;may buttons bob ann;day 1;", 0), Probe.NONE);
        Probe.due("buttons nobody", x.now(5), 3);
        Probe.due("loosed", x.loose(0, 0), 0);
        Probe.due("that is not buttoned", x.now(5), 3);
        x.undo();
        x.undo();
        Probe.due("undone", x.now(5) * 10 + x.now(6), 12);
    }

    /** LASTS from each DAY on is as many DAYS as it takes; NONE if that is not by DAY 400. */
    private static void lasting() {
        String text = "person ann bone bone 1;person bob bone bone 2;maid may 9;street ann bob;year 60;july 1;";
        for (int day = 335; day <= 400; day++) {
            HookedCity x = at(text, day);
            Probe.due("BARE", x.lasts(0), Probe.NONE);
            x.button(0, 1, 0);
            x.button(0, 0, 1);
            int first = day <= 360 ? 360 - day + 1 : Probe.NONE;
            Probe.due("DAY 360 is the last that wears", x.lasts(0), first);
            Probe.due("there are no two", x.lasts(1), Probe.NONE);
        }
        HookedCity x = at("person ann bone bone 1;person bob bone bone 1;year 2;done ann bob;july 0;", 399);
        Probe.due("never without july", x.lasts(1), Probe.NONE);
        x = at("person ann bone bone 1;person bob bone bone 1;maid may 1;street ann bob;year 2;july 2;", 399);
        x.button(0, 0, 1);
        Probe.due("on the last DAY", x.lasts(1), 1);
        x.days(1);
        Probe.due("it PERISHED", x.now(3), 2);
        for (int p : Probe.beyond(2)) {
            Probe.due("no such one", x.lasts(p), Probe.NONE);
        }
    }

    private static void drawnDays() {
        int[] none = {0, -1, 61, 256, Integer.MIN_VALUE, Integer.MAX_VALUE};
        HookedCity x = Probe.of(PAIR + "maid may 1;");
        for (int n : none) {
            Probe.due("drawn " + n, x.drawn(n, 5), Probe.NONE);
        }
        Probe.due("none went by", x.now(0), 0);
        Probe.due("nothing can be undone", x.undo(), Probe.NONE);
        Probe.due("one", x.drawn(1, 5), 1);
        Probe.due("sixty", x.drawn(60, 5), 60);
        Probe.due("each is one act", x.undo(), 1);
        Probe.due("DAY", x.now(0), 1);
        x = Probe.of(PAIR);
        Probe.due("no MAIDS", x.drawn(1, 5), Probe.NONE);
        Probe.due("no MAIDS", x.drawn(60, 5), Probe.NONE);
        x = at(PAIR, 400);
        Probe.due("no MAIDS on DAY 400", x.drawn(1, 5), Probe.NONE);
    }

    private static int seed;

    private static int draw(int n) {
        seed = seed * 1103515245 + 12345;
        return (seed >>> 8) % n;
    }

    /** One to nine PERSONS, one to three MAIDS, seeds at the ends of int: as by single acts. */
    private static void drawnWhoever() {
        int[] seeds = {0, 1, -1, Integer.MAX_VALUE, Integer.MIN_VALUE, 1 << 31 - 1, 1103515245, -1103515245, 12345};
        for (int persons = 1; persons <= 9; persons++) {
            StringBuilder text = new StringBuilder("year 3;july 1;");
            for (int p = 0; p < persons; p++) {
                text.append("person ").append((char) ('a' + p)).append(" bone bone ").append(2 + p % 3).append(';');
                for (int q = 0; q < p; q++) {
                    text.append("street ").append((char) ('a' + q)).append(' ').append((char) ('a' + p)).append(';');
                }
            }
            for (int maids = 1; maids <= 3; maids++) {
                text.append("maid m").append((char) ('a' + maids)).append(" 1;");
                for (int start : seeds) {
                    HookedCity x = Probe.of(text.toString());
                    HookedCity y = Probe.of(text.toString());
                    Probe.due("drawn", x.drawn(12, start), 12);
                    seed = start;
                    for (int day = 0; day < 12; day++) {
                        for (int m = 0; m < maids; m++) {
                            if (draw(4) == 0) {
                                y.loose(m, draw(persons));
                            } else {
                                int p = draw(persons);
                                y.button(m, p, draw(persons));
                            }
                        }
                        y.days(1);
                    }
                    Probe.due("as by acts", Probe.all(x).equals(Probe.all(y)), true);
                }
            }
        }
    }

    /** A MAID who has done as much as her HOOKS today does nothing on the first DAY DRAWN, but on the next. */
    private static void drawnByHooks() {
        String ring = PAIR + "maid may 1;july 0;done ann bob;done bob ann;";
        // by seed 0 the first draw of 4 is 0, so she looses the one of the second draw
        int drawn = (12345 * 1103515245 + 12345 >>> 8) % 2;
        HookedCity x = Probe.of(ring);
        x.drawn(1, 0);
        Probe.due("she loosed him", x.person(drawn, 4), Probe.NONE);
        x = Probe.of(ring);
        Probe.due("her HOOK", x.loose(0, 1 - drawn), 0);
        Probe.due("the DAY goes", x.drawn(1, 0), 1);
        Probe.due("she has no HOOK left", x.person(drawn, 4), 1 - drawn);
        Probe.due("next DAY she has", x.maid(0, 1), 0);
        x.drawn(1, 0);
        Probe.due("she loosed him", x.person(drawn, 4), Probe.NONE);
    }

    /** n 1 to 30; seeds that go on beyond the greatest int; fewer DAYS than 20 that are left; nothing changes. */
    private static void oddsEdges() {
        String text = PAIR + "maid may 1;maid sue 1;year 4;july 1;spare 3;";
        HookedCity x = Probe.of(text);
        int[] none = {0, -1, 31, 32, 256, Integer.MIN_VALUE, Integer.MAX_VALUE};
        for (int n : none) {
            Probe.due("odds of " + n + " seeds", x.odds(0, n, 1), Probe.NONE);
        }
        for (int p : Probe.beyond(2)) {
            Probe.due("odds of no such one", x.odds(p, 1, 1), Probe.NONE);
        }
        Probe.due("no MAIDS", Probe.of(PAIR).odds(0, 1, 1), Probe.NONE);
        Probe.due("no PERSONS", Probe.of("maid may 1;").odds(0, 1, 1), Probe.NONE);
        int[] days = {0, 379, 380, 381, 390, 399, 400};
        int[] starts = {0, Integer.MAX_VALUE, Integer.MAX_VALUE - 1, Integer.MIN_VALUE, -1, -29};
        for (int day : days) {
            for (int start : starts) {
                x = at(text, day);
                x.button(0, 0, 1);
                String before = Probe.everything(x);
                int one = x.odds(0, 1, start);
                int all = x.odds(0, 30, start);
                Probe.due("all stays", Probe.everything(x).equals(before), true);
                x.image(0);
                int due = 0;
                for (int i = 0; i < 30; i++) {
                    x.drawn(20, start + i);
                    due += x.person(0, 4) != Probe.NONE ? 1 : 0;
                    Probe.due("odds of one seed", i > 0 || one == due, true);
                    x.restore(0);
                }
                Probe.due("odds of thirty from " + start + " on " + day, all, due);
            }
        }
    }

    /** What can be undone and what can't. */
    private static void undoEdges() {
        HookedCity x = new HookedCity();
        Probe.due("nothing on a new object", x.undo(), Probe.NONE);
        x.city();
        Probe.due("a CITY is no act", x.undo(), Probe.NONE);
        x = Probe.of(PAIR + "maid may 9;spare 1;year 2;july 2;");
        x.feed(0, 0, 0, 0, 0);
        x.end(0);
        x.match();
        x.way(0, 1);
        x.card(0);
        x.odds(0, 3, 3);
        x.image(0);
        Probe.sentence(x, "open");
        Probe.tape(x, 0, 1);
        x.slips();
        Probe.due("none of these is an act", x.undo(), Probe.NONE);
        Probe.due("refused", x.button(0, 0, 0) + x.loose(0, 0) + x.mend(0), 5);
        Probe.due("refused ones are none", x.undo(), Probe.NONE);
        int[] acts = {x.button(0, 0, 1), x.loose(0, 0), x.days(1), x.drawn(1, 1), x.button(0, 0, 1)};
        Probe.due("acts", acts[0] + acts[1] + acts[2] * 10 + acts[3] * 10, 20);
        int more = acts[4] == 0 ? 4 : 3;
        for (; more >= 0; more--) {
            Probe.due("each is one", x.undo(), more);
        }
        Probe.due("none more", x.undo(), Probe.NONE);
        Probe.due("the SENTENCE stays", x.said(Probe.NONE), 2);
    }

    /** Eight are kept, however many came: undone, done anew and undone again past the place where they come round. */
    private static void undoRound() {
        for (int many = 0; many <= 20; many++) {
            HookedCity x = new HookedCity();
            for (int i = 0; i < many; i++) {
                x.days(1);
            }
            int kept = Math.min(many, 8);
            for (int i = kept - 1; i >= 0; i--) {
                Probe.due("of " + many, x.undo(), i);
                Probe.due("DAY", x.now(0), many - kept + i);
            }
            Probe.due("no more of " + many, x.undo(), Probe.NONE);
            Probe.due("DAY stays", x.now(0), many - kept);
        }
        HookedCity x = new HookedCity();
        for (int i = 0; i < 13; i++) {
            x.days(1);
        }
        Probe.due("three", x.undo() + x.undo() + x.undo(), 7 + 6 + 5);
        for (int i = 0; i < 5; i++) {
            x.days(10);
        }
        Probe.due("DAY", x.now(0), 60);
        int[] due = {50, 40, 30, 20, 10, 9, 8, 7};
        for (int i = 0; i < 8; i++) {
            Probe.due("more", x.undo(), 7 - i);
            Probe.due("DAY", x.now(0), due[i]);
        }
        Probe.due("none more", x.undo(), Probe.NONE);
    }
}
