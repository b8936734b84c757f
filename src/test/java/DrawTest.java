/** Promises 30 and 31: drawn, odds. */
public final class DrawTest {
    private static final String CITY = "person ann bone bone 2;person bob bone bone 3;person cid bone bone 4;"
        + "person dot bone pearl 5;street ann bob;street ann cid;street bob cid;street cid dot;";
    private static final String MAIDS = "maid may 1;maid sue 2;";

    private static int seed;

    public static void main(String[] args) {
        known();
        asActs();
        wrongOnes();
        nobody();
        odds();
        Probe.finish();
    }

    private static int draw(int n) {
        seed = seed * 1103515245 + 12345;
        return (seed >>> 8) % n;
    }

    /** By seed 0 the first draw is 12345 >>> 8, 48, of 4: 0, so she looses; the second is of all PERSONS. */
    private static void known() {
        HookedCity x = Probe.of("person ann bone bone 2;person bob bone bone 3;maid may 1;street ann bob;"
            + "july 0;done ann bob;done bob ann;");
        int second = (12345 * 1103515245 + 12345 >>> 8) % 2;
        Probe.due("one DAY", x.drawn(1, 0), 1);
        Probe.due("she loosed one", x.now(1), 1 << second);
        Probe.due("the DAY went", x.now(0), 1);
        Probe.due("no MAID has done anything", x.maid(0, 1), 0);
        Probe.due("that can be undone", x.undo(), 0);
        Probe.due("as it was", x.now(1), 0);
    }

    /** The same DAYS by button(), loose() and days() on another object. */
    private static void asActs() {
        for (int start = -40; start < 40; start++) {
            HookedCity x = Probe.of(CITY + MAIDS + "year 3;july 2;");
            HookedCity y = Probe.of(CITY + MAIDS + "year 3;july 2;");
            x.button(0, 0, 1);
            y.button(0, 0, 1);
            seed = start * 77777777;
            Probe.due("drawn", x.drawn(25, seed), 25);
            for (int day = 0; day < 25; day++) {
                for (int m = 0; m < 2; m++) {
                    if (draw(4) == 0) {
                        y.loose(m, draw(4));
                    } else {
                        int p = draw(4);
                        y.button(m, p, draw(4));
                    }
                }
                y.days(1);
            }
            Probe.due("drawn from " + start, Probe.all(x).equals(Probe.all(y)), true);
        }
    }

    private static void wrongOnes() {
        HookedCity x = Probe.of(CITY + MAIDS);
        int[] wrong = {0, 61, -1, Integer.MIN_VALUE, Integer.MAX_VALUE};
        for (int n : wrong) {
            Probe.due("drawn " + n, x.drawn(n, 1), Probe.NONE);
        }
        int[][] none = {{-1, 1}, {4, 1}, {0, 0}, {0, 31}, {0, -1}};
        for (int[] one : none) {
            Probe.due("odds " + one[0] + " " + one[1], x.odds(one[0], one[1], 1), Probe.NONE);
        }
        Probe.due("nothing to undo", x.undo(), Probe.NONE);
        x = Probe.of(CITY);
        Probe.due("no MAIDS", x.drawn(1, 1), Probe.NONE);
        Probe.due("no MAIDS", x.odds(0, 1, 1), Probe.NONE);
    }

    private static void nobody() {
        HookedCity x = Probe.of("maid may 1;");
        Probe.due("no PERSONS", x.drawn(60, 5), 60);
        Probe.due("no such one", x.odds(0, 1, 1), Probe.NONE);
        for (int i = 0; i < 5; i++) {
            x.days(60);
        }
        Probe.due("the last forty", x.drawn(60, 5), 40);
        Probe.due("none", x.drawn(60, 5), 0);
        Probe.due("the forty", x.undo(), 6);
        Probe.due("DAY", x.now(0), 360);
    }

    /** The same by drawn() from an image, seed by seed. */
    private static void odds() {
        HookedCity x = Probe.of(CITY + MAIDS + "july 1;year 4;");
        x.days(2);
        x.button(1, 1, 2);
        int[] starts = {1, -7, 123456789, Integer.MAX_VALUE - 4};
        int all = 0;
        for (int start : starts) {
            String before = Probe.all(x);
            int got = x.odds(1, 30, start);
            Probe.due("nothing is changed", Probe.all(x).equals(before), true);
            x.image(1);
            int doneUp = 0;
            for (int i = 0; i < 30; i++) {
                x.drawn(20, start + i);
                doneUp += x.person(1, 4) == Probe.NONE ? 0 : 1;
                x.restore(1);
            }
            Probe.due("odds", got, doneUp);
            all += got;
        }
        Probe.due("some, not all", all > 0 && all < 120, true);
        Probe.due("odds can't be undone", x.undo(), Probe.NONE);
        HookedCity y = Probe.of("person ann bone bone 9;person bob bone bone 9;maid may 1;july 0;done ann bob;");
        for (int i = 0; i < 6; i++) {
            y.days(60);
        }
        y.days(40);
        Probe.due("behind all DAYS none is drawn", y.odds(0, 30, 1), 30);
        Probe.due("and he stays OPEN", y.odds(1, 30, 1), 0);
    }
}
