import java.io.IOException;
import java.lang.reflect.Field;
import java.lang.reflect.Method;
import java.lang.reflect.Modifier;
import java.nio.file.Files;
import java.nio.file.Path;
import java.util.HashSet;
import java.util.List;
import java.util.Set;
import java.util.TreeSet;
import java.util.regex.Matcher;
import java.util.regex.Pattern;

/** The public face as the document has it, and the rules of LANGUAGE.md that a look at the class can tell. */
public final class FaceTest {
    private static final List<String> FACE = List.of(
        "int feed(int)", "int land()", "int told(int)", "int ground(int,int)", "int walker(int,int,int,int)",
        "int of(int,int)", "int put(int,int,int,int)", "int may(int)", "int step(int,int)",
        "int soonest(int,int,int)", "int begin(int,int,int)", "long reached(int,int)", "long never(int)",
        "int meet(int,int,int)", "int home(int)", "int row(int)", "int hand(int,int)", "int track(int)",
        "int tracks(int,int)", "long lot(int,int,int,int)", "int slower(int,int,int,int)", "int judge(int,int)",
        "int image()", "int undo()", "int act(int,int,int)", "int trace(int)", "int taken(int,int)",
        "int count(int)", "int tape(int,int,int)", "int item(int,int,long)", "long read(int,int)",
        "int shift(int,int,int,int,int)");
    // rules 4, 6 and 10: what may not stand in the file
    private static final List<String> FORBIDDEN = List.of("\\bthrows?\\b", "\\btry\\b", "\\bcatch\\b",
        "\\bsynchronized\\b", "\\bassert\\b", "->", "::", "\\bSystem\\.(?!arraycopy\\b)", "\\bequals\\b", "\\bhashCode\\b",
        "\\btoString\\b", "Exact\\b", "\\bInteger\\.(?!compare\\b|bitCount\\b)", "\\bvar\\b", "\\bpackage\\b",
        "\\bwhile \\(true\\)", "\\bfor \\(;;", "\\bfloat\\b", "\\bdouble\\b");

    public static void main(String[] args) throws IOException {
        face();
        inside();
        if (args.length > 0) {
            source(Files.readString(Path.of(args[0])));
        }
        Due.end("FaceTest");
    }

    private static String signature(Method m) {
        StringBuilder text = new StringBuilder(m.getReturnType().getName()).append(' ').append(m.getName()).append('(');
        for (int k = 0; k < m.getParameterCount(); k++) {
            text.append(k > 0 ? "," : "").append(m.getParameterTypes()[k].getName());
        }
        return text.append(')').toString();
    }

    private static void face() {
        Set<String> open = new TreeSet<>();
        for (Method m : TwoOnOneBack.class.getDeclaredMethods()) {
            if (!Modifier.isPrivate(m.getModifiers())) {
                open.add(signature(m));
            }
        }
        Due.holds("the face's methods and no others: " + open, open.equals(new TreeSet<>(FACE)));
        Due.holds("final", Modifier.isFinal(TwoOnOneBack.class.getModifiers()));
        Due.is("constructors", TwoOnOneBack.class.getDeclaredConstructors().length, 1);
        Set<String> constants = new TreeSet<>();
        for (Field f : TwoOnOneBack.class.getDeclaredFields()) {
            if (!Modifier.isPrivate(f.getModifiers())) {
                constants.add(f.getType() + " " + f.getName());
            }
        }
        Due.holds("the face's constants and no others: " + constants,
            constants.equals(Set.of("int NONE", "int BAD", "int STATE", "int FULL", "long NO")));
        Due.is("NONE", TwoOnOneBack.NONE, -1);
        Due.is("BAD", TwoOnOneBack.BAD, -2);
        Due.is("STATE", TwoOnOneBack.STATE, -3);
        Due.is("FULL", TwoOnOneBack.FULL, -4);
        Due.is("NO", TwoOnOneBack.NO, Long.MIN_VALUE);
    }

    private static void inside() {
        Set<String> names = new HashSet<>();
        for (String call : FACE) {
            names.add(call.substring(call.indexOf(' ') + 1, call.indexOf('(')));
        }
        Due.holds("twelve classes at most", TwoOnOneBack.class.getDeclaredClasses().length <= 11);
        fields(TwoOnOneBack.class);
        for (Method m : TwoOnOneBack.class.getDeclaredMethods()) {
            Due.holds(m + ": no private method has a public one's name",
                !Modifier.isPrivate(m.getModifiers()) || !names.contains(m.getName()));
            Due.holds(m + ": seven parameters at most", m.getParameterCount() <= 7);
        }
        for (Class<?> c : TwoOnOneBack.class.getDeclaredClasses()) {
            Due.holds(c + " is static", Modifier.isStatic(c.getModifiers()));
            Due.holds(c + " is not public", !Modifier.isPublic(c.getModifiers()));
            fields(c);
            for (Method m : c.getDeclaredMethods()) {
                Due.holds(m + ": seven parameters at most", m.getParameterCount() <= 7);
                Due.holds(m + ": no public one's name", !names.contains(m.getName()));
            }
        }
    }

    private static void fields(Class<?> c) {
        int own = 0;
        for (Field f : c.getDeclaredFields()) {
            if (Modifier.isStatic(f.getModifiers())) {
                Due.holds(f + " is final", Modifier.isFinal(f.getModifiers()));
            } else {
                own++;
            }
        }
        Due.holds(c + ": twenty fields at most", own <= 20);
    }

    private static void source(String source) {
        String bare = source.replaceAll("(?s)/\\*.*?\\*/", "").replaceAll("//[^\n]*", "");
        for (String rule : FORBIDDEN) {
            Due.holds("nothing like " + rule, !Pattern.compile(rule).matcher(bare).find());
        }
        Matcher imports = Pattern.compile("(?m)^import ([^;]+);").matcher(bare);
        while (imports.find()) {
            Due.holds("import of " + imports.group(1),
                Set.of("java.util.Arrays", "java.util.ArrayList", "java.util.List").contains(imports.group(1)));
        }
        Matcher methods = Pattern.compile("(?ms)^( +)[a-zA-Z][^;={}]*\\) \\{\n.*?^\\1\\}").matcher(source);
        while (methods.find()) {
            Due.holds("sixty lines at most: " + methods.group().lines().findFirst().orElse(""),
                methods.group().lines().count() <= 60);
        }
        Due.holds("signs 1 to 127", source.chars().allMatch(sign -> sign > 0 && sign < 128));
    }
}
