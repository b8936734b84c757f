/** Promises 1, 2, 3 and 38: a new object, feed, end, count. */
public final class TapeTest {
    public static void main(String[] args) {
        newObject();
        feeding();
        ending();
        counting();
        Probe.finish();
    }

    private static void newObject() {
        HookedCity x = new HookedCity();
        Probe.due("bytes of a new tape", x.count(4), 0);
        Probe.due("a new CITY has nobody", x.count(0), 0);
        Probe.due("and no MAIDS", x.count(1), 0);
        Probe.due("fault ahead of any", x.fault(), 0);
        Probe.due("DAY", x.now(0), 0);
        Probe.due("the empty tape is a CITY", x.city(), 0);
        Probe.due("no FAULT", x.fault(), 0);
        Probe.due("days go by in an empty CITY", x.days(60), 60);
    }

    private static void feeding() {
        HookedCity x = new HookedCity();
        // 'spare 7;year 33;july' in fives of four bytes, the highest first
        Probe.due("twenty", x.feed(0x73706172, 0x6520373b, 0x79656172, 0x2033333b, 0x6a756c79), 20);
        Probe.due("' 44;' and blanks", x.feed(0x2034343b, 0x20202020, 0x0a0a0a0a, 0x20202020, 0x20202020), 40);
        Probe.due("three LINES", x.city(), 3);
        Probe.due("spare", x.now(4), 7);
        Probe.due("year", x.count(2), 33);
        Probe.due("july", x.count(3), 44);
        for (int i = 1; i <= 47; i++) {
            Probe.due("feed", x.feed(-1, -1, -1, -1, -1), 20 * i);
        }
        Probe.due("more than 940", x.feed(0, 0, 0, 0, 0), Probe.NONE);
        Probe.due("none come", x.count(4), 940);
        Probe.due("cut", x.end(921), true);
        Probe.due("941 are too many", x.feed(0, 0, 0, 0, 0), Probe.NONE);
        Probe.due("cut", x.end(920), true);
        Probe.due("940 are not", x.feed(0, 0, 0, 0, 0), 940);
        // signs above 127 come through: a byte of 255 says that a button was found OPEN
        x = Probe.of("person ann bone bone 1;");
        Probe.tape(x, 0, 255);
        Probe.due("a button found OPEN", x.slips(), 2);
    }

    private static void ending() {
        HookedCity x = new HookedCity();
        Probe.due("none of none", x.end(0), true);
        Probe.due("one of none", x.end(1), false);
        Probe.due("below 0", x.end(-1), false);
        x.feed(0, 0, 0, 0, 0);
        Probe.due("all", x.end(20), true);
        Probe.due("one more", x.end(21), false);
        Probe.due("most", x.end(Integer.MAX_VALUE), false);
        Probe.due("least", x.end(Integer.MIN_VALUE), false);
        Probe.due("it stays", x.count(4), 20);
        Probe.due("seven", x.end(7), true);
        Probe.due("seven bytes", x.count(4), 7);
        Probe.due("feed behind them", x.feed(0, 0, 0, 0, 0), 27);
    }

    private static void counting() {
        HookedCity x = Probe.of("person ann bone bone 1;person bob bone bone 1;maid may 1;year 60;july 0;");
        Probe.tape(x, "abc");
        int[] due = {Probe.NONE, 2, 1, 60, 0, 3, Probe.NONE};
        for (int what = -1; what <= 5; what++) {
            Probe.due("count " + what, x.count(what), due[what + 1]);
        }
        x = Probe.of("");
        Probe.due("year without one", x.count(2), 12);
        Probe.due("july without one", x.count(3), 1);
    }
}
