import java.lang.management.ManagementFactory;
import java.lang.reflect.Array;
import java.lang.reflect.Field;
import java.lang.reflect.Modifier;
import java.util.IdentityHashMap;
import java.util.Map;

/** All calls of a run live in one room: a new object is small, and calls make nothing. */
public final class RoomTest {
    private static final String CITY = "person ann pearl bone 2;person bob bone pearl 1;person cid bone bone 3;"
        + "person dot glass pearl 2;maid may 2;street ann bob;street bob cid;street ann cid;street cid dot;"
        + "done ann bob;done bob ann;spare 1;year 3;july 1;";

    private static final Map<Object, Boolean> SEEN = new IdentityHashMap<>();
    private static int elements = 0;

    public static void main(String[] args) throws ReflectiveOperationException {
        size();
        calls();
        Probe.finish();
    }

    private static void size() throws ReflectiveOperationException {
        walk(new HookedCity());
        Probe.due("objects and arrays of one object: " + SEEN.size(), SEEN.size() <= 250, true);
        Probe.due("its fields and elements: " + elements, elements <= 5000, true);
    }

    private static void walk(Object one) throws ReflectiveOperationException {
        if (one == null || one instanceof Enum || SEEN.put(one, true) != null) {
            return;
        }
        Class<?> type = one.getClass();
        if (type.isArray()) {
            elements += Array.getLength(one);
            for (int i = 0; i < Array.getLength(one) && !type.getComponentType().isPrimitive(); i++) {
                walk(Array.get(one, i));
            }
            return;
        }
        for (Field field : type.getDeclaredFields()) {
            if (!Modifier.isStatic(field.getModifiers())) {
                elements++;
                field.setAccessible(true);
                if (!field.getType().isPrimitive()) {
                    walk(field.get(one));
                }
            }
        }
    }

    private static void calls() {
        com.sun.management.ThreadMXBean counter = (com.sun.management.ThreadMXBean) ManagementFactory.getThreadMXBean();
        long id = Thread.currentThread().getId();
        HookedCity x = Probe.of(CITY);
        int[] city = packed(CITY);
        int[] book = packed("may buttons ann cid;day 3;mend bob;");
        int[] sentence = packed("not(open or bare)and loop<3 or with ann");
        long most = 0;
        for (int round = 0; round < 4; round++) {
            long before = counter.getThreadAllocatedBytes(id);
            for (int i = 0; i < 200; i++) {
                everything(x, city, book, sentence);
            }
            most = counter.getThreadAllocatedBytes(id) - before;
        }
        Probe.due("bytes that 200 rounds of all calls make: " + most, most < 20000, true);
    }

    private static int[] packed(String text) {
        int[] all = new int[(text.length() + 19) / 20 * 5 + 1];
        for (int i = 0; i < text.length(); i++) {
            all[i / 4] |= text.charAt(i) << 24 - 8 * (i % 4);
        }
        all[all.length - 1] = text.length();
        return all;
    }

    private static void put(HookedCity x, int[] text) {
        for (int i = 0; i + 5 < text.length; i += 5) {
            x.feed(text[i], text[i + 1], text[i + 2], text[i + 3], text[i + 4]);
        }
        x.end(text[text.length - 1]);
    }

    private static void everything(HookedCity x, int[] city, int[] book, int[] sentence) {
        put(x, city);
        x.city();
        put(x, sentence);
        x.sentence();
        x.said(0);
        x.image(0);
        x.loose(0, 0);
        x.button(0, 0, 2);
        put(x, book);
        x.book(1);
        x.mend(0);
        x.days(2);
        x.match();
        x.takes();
        x.way(0, 3);
        x.card(0);
        x.drawn(5, 3);
        x.odds(0, 30, 1);
        x.lasts(0);
        x.quiet();
        x.parts();
        x.undo();
        x.feed(65536, 0, 0, 0, 0);
        x.end(2);
        x.slips();
        x.restore(0);
    }
}
