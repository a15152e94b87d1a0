import java.lang.reflect.Constructor;
import java.lang.reflect.Field;
import java.lang.reflect.Method;
import java.lang.reflect.Modifier;
import java.util.TreeSet;

/** The class has the document's public face and nothing else that is not private. */
public final class FaceTest {
    private static final String[] FACE = {
        "int BAD", "int NOT", "int FULL", "int CONFLICT", "int STATE", "int VOID", "StockEvents()",
        "int feed(int)", "int ask(int int int)", "int batch()", "int upcast()", "int state(int int)",
        "int at(int int int)", "int steps(int int)", "int snap(int)", "int snaps(int int)", "int every(int)",
        "int event(int int)", "int text(int int)", "int find(int int)", "long worth(int)", "int project(int)",
        "int rebuild(int)", "int deliver(int int int int)", "int swap(int)", "int look(int int int)",
        "int row(int int int)", "int policy(int)", "int run(int int)", "int policyOf(int int)", "int see(int int)",
        "int harmless()", "int attempt(int int)", "int watch(int int)", "long foresee(int int)",
        "int tally(int int int int)", "long digest(int)", "int image()", "int back()", "int led(int)",
        "int count(int)"
    };

    public static void main(String[] args) {
        TreeSet<String> want = new TreeSet<>();
        for (String member : FACE) {
            want.add(member);
        }
        TreeSet<String> got = new TreeSet<>();
        for (Field f : StockEvents.class.getDeclaredFields()) {
            if (!Modifier.isPrivate(f.getModifiers())) {
                got.add(f.getType().getSimpleName() + " " + f.getName());
            }
        }
        for (Constructor<?> c : StockEvents.class.getDeclaredConstructors()) {
            got.add("StockEvents(" + types(c.getParameterTypes()) + ")");
        }
        TreeSet<String> names = new TreeSet<>();
        TreeSet<String> hidden = new TreeSet<>();
        for (Method m : StockEvents.class.getDeclaredMethods()) {
            if (Modifier.isPrivate(m.getModifiers())) {
                hidden.add(m.getName());
            } else {
                names.add(m.getName());
                got.add(m.getReturnType().getSimpleName() + " " + m.getName() + "(" + types(m.getParameterTypes()) + ")");
            }
        }
        hidden.retainAll(names);
        boolean right = got.equals(want) && hidden.isEmpty() && Modifier.isFinal(StockEvents.class.getModifiers());
        System.out.println(right ? "the face is the document's" : "the face is " + got + ", hidden too: " + hidden);
        if (!right) {
            System.exit(1);
        }
    }

    private static String types(Class<?>[] types) {
        StringBuilder s = new StringBuilder();
        for (Class<?> type : types) {
            s.append(s.length() == 0 ? "" : " ").append(type.getSimpleName());
        }
        return s.toString();
    }
}
