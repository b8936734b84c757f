import java.lang.reflect.Constructor;
import java.lang.reflect.Field;
import java.lang.reflect.Method;
import java.lang.reflect.Modifier;
import java.util.Arrays;
import java.util.HashSet;
import java.util.Set;
import java.util.TreeSet;

/** The face: just what the document has, and nothing else that can be seen. */
public final class FaceTest {
    private static final String[] FACE = {
        "int feed(int,int,int,int,int)", "boolean end(int)", "int city()", "int fault()", "int person(int,int)",
        "int maid(int,int)", "int now(int)", "int button(int,int,int)", "int loose(int,int)", "int mend(int)",
        "int days(int)", "int undo()", "int with(int)", "int parts()", "int quiet()", "int match()",
        "int matched(int)", "int takes()", "int slips()", "int slipLeast()", "int turn()", "int way(int,int)",
        "int wayAt(int)", "int lasts(int)", "int near(int)", "int could(int)", "int card(int)", "int byteAt(int)",
        "int drawn(int,int)", "int odds(int,int,int)", "int book(int)", "int told(int)", "int sentence()",
        "int said(int)", "boolean image(int)", "boolean restore(int)", "int count(int)",
    };

    public static void main(String[] args) {
        Set<String> publicNames = new HashSet<>();
        Set<String> found = new TreeSet<>();
        for (Method method : HookedCity.class.getDeclaredMethods()) {
            if (Modifier.isPublic(method.getModifiers())) {
                publicNames.add(method.getName());
                found.add(signature(method));
            } else if (!method.isSynthetic()) {
                Probe.due("private: " + method, Modifier.isPrivate(method.getModifiers()), true);
            }
        }
        Probe.due("the face is as told: " + found, found.equals(new TreeSet<>(Arrays.asList(FACE))), true);
        Probe.due("final", Modifier.isFinal(HookedCity.class.getModifiers()), true);
        constructors();
        fields();
        inside(publicNames);
        Probe.finish();
    }

    private static String signature(Method method) {
        StringBuilder text = new StringBuilder();
        text.append(method.getReturnType().getName()).append(' ').append(method.getName()).append('(');
        for (int i = 0; i < method.getParameterCount(); i++) {
            text.append(i == 0 ? "" : ",").append(method.getParameterTypes()[i].getName());
        }
        return text.append(')').toString();
    }

    private static void constructors() {
        Constructor<?>[] all = HookedCity.class.getDeclaredConstructors();
        Probe.due("constructors", all.length, 1);
        Probe.due("its constructor is public", Modifier.isPublic(all[0].getModifiers()), true);
        Probe.due("its parameters", all[0].getParameterCount(), 0);
    }

    private static void fields() {
        Probe.due("NONE", HookedCity.NONE, -1);
        for (Field field : HookedCity.class.getDeclaredFields()) {
            boolean isConstant = field.getName().equals("NONE");
            Probe.due("seen from outside: " + field, !Modifier.isPrivate(field.getModifiers()), isConstant);
        }
    }

    private static void inside(Set<String> publicNames) {
        Class<?>[] classes = HookedCity.class.getDeclaredClasses();
        Probe.due("at most twelve classes", classes.length < 12, true);
        for (Class<?> one : classes) {
            Probe.due("static: " + one, Modifier.isStatic(one.getModifiers()), true);
            Probe.due("public: " + one, Modifier.isPublic(one.getModifiers()), false);
            for (Method method : one.getDeclaredMethods()) {
                Probe.due("bears a public name: " + method, publicNames.contains(method.getName()), false);
                Probe.due("too many parameters: " + method, method.getParameterCount() > 7, false);
            }
            for (Field field : one.getDeclaredFields()) {
                int kind = field.getModifiers();
                Probe.due("static and not final: " + field, Modifier.isStatic(kind) && !Modifier.isFinal(kind), false);
            }
        }
    }
}
