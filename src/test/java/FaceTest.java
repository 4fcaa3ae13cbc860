import java.lang.reflect.Field;
import java.lang.reflect.Method;
import java.lang.reflect.Modifier;
import java.util.HashSet;
import java.util.List;
import java.util.Set;
import java.util.TreeSet;

/** The public face as the document has it, and rule 1 of LANGUAGE.md: nothing else is open, no name stands twice. */
public final class FaceTest {
    private static final List<String> FACE = List.of(
        "int feed(int)", "int land()", "int told(int)", "int ground(int,int)", "int walker(int,int,int,int)",
        "int of(int,int)", "int put(int,int,int,int)", "int may(int)", "int step(int,int)",
        "int soonest(int,int,int)", "int begin(int,int,int)", "long reached(int,int)", "long never(int)",
        "int meet(int,int,int)", "int home(int)", "int row(int)", "int hand(int,int)", "int track(int)",
        "int tracks(int,int)", "long lot(int,int,int,int)", "int slower(int,int,int,int)", "int judge(int,int)",
        "int image()", "int undo()", "int act(int,int,int)", "int trace(int)", "int taken(int,int)",
        "int count(int)", "int tape(int,int,int)", "int item(int,int,long)", "long read(int,int)",
        "int shift(int,int,int,int,int)");

    public static void main(String[] args) {
        face();
        names();
        Due.end("FaceTest");
    }

    private static String signature(Method m) {
        StringBuilder text = new StringBuilder(m.getReturnType().getName()).append(' ').append(m.getName()).append('(');
        for (int k = 0; k < m.getParameterCount(); k++) {
            text.append(k > 0 ? "," : "").append(m.getParameterTypes()[k].getName());
        }
        return text.append(')').toString();
    }

    private static void face() {
        Set<String> open = new TreeSet<>();
        for (Method m : TwoOnOneBack.class.getDeclaredMethods()) {
            if (!Modifier.isPrivate(m.getModifiers())) {
                open.add(signature(m));
            }
        }
        Due.holds("the face's methods and no others: " + open, open.equals(new TreeSet<>(FACE)));
        Due.holds("final", Modifier.isFinal(TwoOnOneBack.class.getModifiers()));
        Due.is("constructors", TwoOnOneBack.class.getDeclaredConstructors().length, 1);
        Set<String> constants = new TreeSet<>();
        for (Field f : TwoOnOneBack.class.getDeclaredFields()) {
            if (!Modifier.isPrivate(f.getModifiers())) {
                constants.add(f.getType() + " " + f.getName());
            }
        }
        Due.holds("the face's constants and no others: " + constants,
            constants.equals(Set.of("int NONE", "int BAD", "int STATE", "int FULL", "long NO")));
        Due.is("NONE", TwoOnOneBack.NONE, -1);
        Due.is("BAD", TwoOnOneBack.BAD, -2);
        Due.is("STATE", TwoOnOneBack.STATE, -3);
        Due.is("FULL", TwoOnOneBack.FULL, -4);
        Due.is("NO", TwoOnOneBack.NO, Long.MIN_VALUE);
    }

    private static void names() {
        Set<String> names = new HashSet<>();
        for (String call : FACE) {
            names.add(call.substring(call.indexOf(' ') + 1, call.indexOf('(')));
        }
        own(TwoOnOneBack.class, names);
        for (Class<?> c : TwoOnOneBack.class.getDeclaredClasses()) {
            Due.holds(c + " is not public", !Modifier.isPublic(c.getModifiers()));
            Due.holds(c + " is not protected", !Modifier.isProtected(c.getModifiers()));
            own(c, names);
        }
    }

    // also in the classes inside, where the document leaves it open
    private static void own(Class<?> c, Set<String> names) {
        for (Method m : c.getDeclaredMethods()) {
            boolean open = c == TwoOnOneBack.class && Modifier.isPublic(m.getModifiers());
            Due.holds(m + ": no method of one's own has a public one's name", open || !names.contains(m.getName()));
        }
    }
}
