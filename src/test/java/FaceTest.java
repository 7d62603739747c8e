import java.io.IOException;
import java.lang.reflect.Field;
import java.lang.reflect.Method;
import java.lang.reflect.Modifier;
import java.nio.file.Files;
import java.nio.file.Path;
import java.util.Set;
import java.util.TreeSet;
import java.util.regex.Matcher;
import java.util.regex.Pattern;

/** The document's face, and those rules of LANGUAGE.md that can be seen from outside. */
public final class FaceTest {
    private static final Check check = new Check();
    private static final String[] METHODS = {"write(int)", "erase()", "fault()", "rules()", "room(int,int)", "load(int,int)",
        "flow(int,int)", "rule(int,int,int)", "table(int)", "link(int,int,int)", "want(int)", "slots(int)", "turn(int,int)",
        "force(int,int)", "advance(int)", "reverse(int)", "ready(int)", "flip(int)", "finish(int)", "cancel(int)",
        "send(int)", "tick()", "sound(int,int)", "walk(int,int,int)", "safe(int,int,int)", "plan(int,int)", "rounds(int)",
        "order(int)", "waits(int,int)", "letter(int,int)", "count(int)"};
    private static final String[] CONSTANTS = {"NONE", "UNKNOWN", "OUTSIDE", "NOT", "FULL"};
    private static final String REFUSED = "\\b(throw|throws|try|catch|synchronized|assert|import|package|protected|Object|"
            + "hashCode|toString|Exception|System\\.(?!arraycopy)\\w+|\\w+Exact)\\b|->|::|@";

    public static void main(String[] args) throws IOException {
        Set<String> publicNames = new TreeSet<>();
        face(publicNames);
        classesInside(publicNames);
        words();
        check.end();
    }

    private static String signed(Method m) {
        StringBuilder text = new StringBuilder(m.getName()).append('(');
        for (Class<?> type : m.getParameterTypes()) {
            text.append(text.charAt(text.length() - 1) == '(' ? "" : ",").append(type.getName());
        }
        return text.append(')').toString();
    }

    private static void face(Set<String> publicNames) {
        Class<?> c = MixedRules.class;
        check.due("the class is public and final", c.getModifiers(), Modifier.PUBLIC | Modifier.FINAL);
        check.due("constructors", c.getDeclaredConstructors().length, 1);
        check.due("public constructors without arguments", c.getConstructors()[0].getParameterCount(), 0);
        Set<String> found = new TreeSet<>();
        for (Method m : c.getDeclaredMethods()) {
            if (Modifier.isPrivate(m.getModifiers())) {
                continue;
            }
            found.add(signed(m));
            publicNames.add(m.getName());
            check.due(m + " is public and answers an int",
                    m.getModifiers() == Modifier.PUBLIC && m.getReturnType() == int.class ? 1 : 0, 1);
        }
        check.same("the methods", found.toString(), new TreeSet<>(Set.of(METHODS)).toString());
        Set<String> constants = new TreeSet<>();
        for (Field f : c.getDeclaredFields()) {
            if (!Modifier.isPrivate(f.getModifiers())) {
                constants.add(f.getName());
                check.due(f + " is a constant", f.getType() == int.class && Modifier.isFinal(f.getModifiers())
                        && Modifier.isStatic(f.getModifiers()) && Modifier.isPublic(f.getModifiers()) ? 1 : 0, 1);
            }
        }
        check.same("the constants", constants.toString(), new TreeSet<>(Set.of(CONSTANTS)).toString());
    }

    private static void classesInside(Set<String> publicNames) {
        Class<?>[] inside = MixedRules.class.getDeclaredClasses();
        check.due("no more than twelve classes", inside.length < 12 ? 1 : 0, 1);
        for (Class<?> c : inside) {
            int modifiers = c.getModifiers();
            check.due(c + " is static and not public", Modifier.isStatic(modifiers) && !Modifier.isPublic(modifiers) ? 1 : 0, 1);
            check.due(c + " has no more than twenty fields", c.getDeclaredFields().length <= 20 ? 1 : 0, 1);
            fieldsAreFinal(c);
            methodsAreNamedOtherwise(c, publicNames);
        }
        fieldsAreFinal(MixedRules.class);
        for (Method m : MixedRules.class.getDeclaredMethods()) {
            if (Modifier.isPrivate(m.getModifiers())) {
                check.due(m + " is named like a public one", publicNames.contains(m.getName()) ? 1 : 0, 0);
            }
        }
    }

    private static void fieldsAreFinal(Class<?> c) {
        for (Field f : c.getDeclaredFields()) {
            boolean changing = Modifier.isStatic(f.getModifiers()) && !Modifier.isFinal(f.getModifiers());
            check.due(f + " is static and not final", changing ? 1 : 0, 0);
        }
    }

    private static void methodsAreNamedOtherwise(Class<?> c, Set<String> publicNames) {
        for (Method m : c.getDeclaredMethods()) {
            check.due(m + " is named like a public one", publicNames.contains(m.getName()) ? 1 : 0, 0);
            check.due(m + " takes no more than seven", m.getParameterCount() <= 7 ? 1 : 0, 1);
        }
    }

    private static void words() throws IOException {
        String source = Files.readString(Path.of("src/main/java/MixedRules.java"));
        String bare = source.replaceAll("(?s)/\\*.*?\\*/", "").replaceAll("//[^\n]*", "").replaceAll("\"[^\"\n]*\"", "\"\"");
        Matcher m = Pattern.compile(REFUSED).matcher(bare);
        StringBuilder found = new StringBuilder();
        while (m.find()) {
            found.append(m.group()).append(' ');
        }
        check.same("words that LANGUAGE.md refuses", found.toString(), "");
    }
}
