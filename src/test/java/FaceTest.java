import java.io.IOException;
import java.lang.reflect.Constructor;
import java.lang.reflect.Method;
import java.lang.reflect.Modifier;
import java.nio.file.Files;
import java.nio.file.Path;
import java.util.HashSet;
import java.util.Set;

/** "The public face": each line of it, as the document has it, stands in the class, and no other. */
public final class FaceTest {
    private static final Sentences S = new Sentences("FaceTest");
    private static final String PART = "The public face";

    public static void main(String[] args) throws IOException {
        Set<String> told = new HashSet<>();
        Set<String> there = thereIs();
        boolean inside = false;
        for (String line : Files.readAllLines(Path.of("../shared/DOC.md"))) {
            inside = inside ? !line.equals("```") : line.equals("```java");
            if (inside && line.contains("public")) {
                String plain = withoutNames(line.trim());
                told.add(plain);
                S.says(PART, line.trim());
                S.due("stands in the class", there.contains(plain) ? 1 : 0, 1);
            }
        }
        for (String one : there) {
            S.due(one + " is of the face", told.contains(one) ? 1 : 0, 1);
        }
        S.finish(PART);
    }

    /** Types alone: the names of parameters are not seen in a class. */
    private static String withoutNames(String line) {
        return line.replaceAll("\\b(int|long) \\w+(?=[,)])", "$1");
    }

    private static Set<String> thereIs() {
        Set<String> all = new HashSet<>();
        Class<?> c = PureGroups.class;
        all.add((c.getModifiers() == (Modifier.PUBLIC | Modifier.FINAL) ? "public final class " : "class ") + c.getName() + " {");
        for (Constructor<?> one : c.getDeclaredConstructors()) {
            all.add(Modifier.toString(one.getModifiers()) + " " + c.getName() + parameters(one.getParameterTypes()));
        }
        for (Method m : c.getDeclaredMethods()) {
            if (!Modifier.isPrivate(m.getModifiers())) {
                all.add(Modifier.toString(m.getModifiers()) + " " + m.getReturnType() + " " + m.getName() + parameters(m.getParameterTypes()));
            }
        }
        return all;
    }

    private static String parameters(Class<?>[] types) {
        StringBuilder text = new StringBuilder("(");
        for (Class<?> type : types) {
            text.append(text.length() > 1 ? ", " : "").append(type.getName());
        }
        return text.append(");").toString();
    }
}
