import java.io.IOException;
import java.lang.reflect.Field;
import java.lang.reflect.Member;
import java.lang.reflect.Method;
import java.lang.reflect.Modifier;
import java.nio.file.Files;
import java.nio.file.Path;
import java.util.Arrays;
import java.util.HashSet;
import java.util.List;
import java.util.Set;
import java.util.TreeSet;
import java.util.regex.Matcher;
import java.util.regex.Pattern;

/** What of LANGUAGE.md can be seen by a look at the class and at its text. */
public final class LanguageTest {
    private static final Check CHECK = new Check("LanguageTest");
    private static final Path SOURCE = Path.of("src/main/java/PureGroups.java");
    private static final List<String> FACE = List.of(
        "int letter(int)", "int quantity(int)", "int tell(int,int,int)", "int turn(int,int)", "int of(int,int)",
        "int twin(int)", "int taken(int,int)", "int rank(int)", "int group(int,int)", "int pure(int)",
        "long cover(int,int,int)", "int box()", "int least(int)", "int may(int)", "int rest(int,int,int)",
        "int sets(int)", "long sizes(int)", "long odds(int)", "int scale(int,int,int)", "int scaled(int,int)",
        "int alike()", "long must(int,int,int,int)", "int whole(int,int)", "int off(int)", "int fewest(int,int)",
        "int had(int)", "int formula()", "int wrong(int)", "int sides(int,int)", "int mend(int)",
        "int lots(int,int,int)", "int list(int,int)", "int put(int,int,int)", "int look(int,int)",
        "int lays(int,int,int)", "int judge(int)", "int undo()", "int image()", "int on()", "int count(int)");

    public static void main(String[] args) throws IOException {
        face();
        classesInside();
        statics();
        text();
        methods();
        CHECK.finish();
    }

    private static String told(Method m) {
        StringBuilder text = new StringBuilder(m.getReturnType().getName()).append(' ').append(m.getName()).append('(');
        for (int i = 0; i < m.getParameterCount(); i++) {
            text.append(i > 0 ? "," : "").append(m.getParameterTypes()[i].getName());
        }
        return text.append(')').toString();
    }

    private static boolean isPrivate(Member m) {
        return Modifier.isPrivate(m.getModifiers());
    }

    private static void face() {
        Class<?> c = PureGroups.class;
        Set<String> seen = new TreeSet<>();
        Set<String> publicNames = new HashSet<>();
        for (Method m : c.getDeclaredMethods()) {
            if (!isPrivate(m)) {
                seen.add(told(m));
                publicNames.add(m.getName());
                CHECK.holds("rule 1: plainly public: " + m.getName(), m.getModifiers() == Modifier.PUBLIC);
            }
        }
        CHECK.holds("rule 1: the face: " + seen, seen.equals(new TreeSet<>(FACE)));
        CHECK.holds("rule 1: public and final", c.getModifiers() == (Modifier.PUBLIC | Modifier.FINAL));
        CHECK.holds("rule 1: one constructor", c.getDeclaredConstructors().length == 1
            && c.getDeclaredConstructors()[0].getParameterCount() == 0
            && Modifier.isPublic(c.getDeclaredConstructors()[0].getModifiers()));
        for (Field f : c.getDeclaredFields()) {
            CHECK.holds("rule 1: private: " + f.getName(), isPrivate(f));
        }
        for (Method m : c.getDeclaredMethods()) {
            CHECK.holds("rule 1: no public one's name: " + m.getName(), !isPrivate(m) || !publicNames.contains(m.getName()));
        }
        for (Class<?> inside : c.getDeclaredClasses()) {
            for (Method m : inside.getDeclaredMethods()) {
                CHECK.holds("rule 1: no public one's name: " + m.getName(), !publicNames.contains(m.getName()));
            }
        }
    }

    private static void classesInside() {
        Class<?>[] inside = PureGroups.class.getDeclaredClasses();
        CHECK.holds("rule 11: some twelve classes", inside.length < 12);
        for (Class<?> c : inside) {
            CHECK.holds("rule 2: static: " + c.getName(), Modifier.isStatic(c.getModifiers()));
            CHECK.holds("rule 1: not public: " + c.getName(), (c.getModifiers() & (Modifier.PUBLIC | Modifier.PROTECTED)) == 0);
            fieldsOf(c);
        }
        fieldsOf(PureGroups.class);
    }

    private static void fieldsOf(Class<?> c) {
        long fields = Arrays.stream(c.getDeclaredFields()).filter(f -> !Modifier.isStatic(f.getModifiers())).count();
        CHECK.holds("rule 11: some twenty fields: " + c.getName(), fields <= 20);
        for (Method m : c.getDeclaredMethods()) {
            CHECK.holds("rule 11: seven parameters: " + m.getName(), m.getParameterCount() <= 7);
        }
    }

    private static void statics() {
        List<Class<?>> good = List.of(int.class, long.class, boolean.class, char.class, String.class,
            int[].class, long[].class, char[].class, byte[].class);
        Set<Class<?>> all = new HashSet<>(List.of(PureGroups.class.getDeclaredClasses()));
        all.add(PureGroups.class);
        for (Class<?> c : all) {
            for (Field f : c.getDeclaredFields()) {
                if (Modifier.isStatic(f.getModifiers())) {
                    CHECK.holds("rule 5: final: " + f.getName(), Modifier.isFinal(f.getModifiers()));
                    CHECK.holds("rule 5: of its types: " + f.getName(), good.contains(f.getType()));
                }
            }
        }
    }

    private static String withoutComments(String text) {
        return text.replaceAll("(?s)/\\*.*?\\*/", " ").replaceAll("//[^\n]*", " ");
    }

    private static void text() throws IOException {
        String code = withoutComments(Files.readString(SOURCE));
        String[] words = {"throw", "throws", "try", "catch", "finally", "synchronized", "assert", "instanceof", "package",
            "String", "Object", "Exception", "Error", "Random", "Thread", "volatile", "transient", "native", "float", "double",
            "equals", "hashCode", "toString", "while", "do", "null", "goto", "default"};
        for (String word : words) {
            boolean stands = Pattern.compile("(?<!\\w)" + Pattern.quote(word) + "(?!\\w)").matcher(code).find();
            CHECK.holds("rules 3, 4, 6, 9, 13: no " + word, !stands);
        }
        CHECK.holds("rule 2: no lambda, no method reference", !code.contains("->") && !code.contains("::"));
        CHECK.holds("rule 4: one import", code.split("import ").length == 2 && code.contains("import java.util.Arrays;"));
        Set<String> library = new TreeSet<>();
        Matcher m = Pattern.compile("\\b(Math|Integer|Long|Arrays|System)\\.(\\w+)").matcher(code);
        while (m.find()) {
            library.add(m.group());
        }
        Set<String> good = Set.of("Math.abs", "Math.min", "Math.max", "Integer.bitCount",
            "Arrays.fill", "System.arraycopy");
        for (String used : library) {
            CHECK.holds("rule 4: " + used, good.contains(used));
        }
        CHECK.holds("rule 12: rows are made once", !Pattern.compile("\\n {12,}[^\\n]*\\bnew ").matcher(code).find());
    }

    private static void methods() throws IOException {
        int begun = -1;
        List<String> lines = Files.readAllLines(SOURCE);
        for (int i = 0; i < lines.size(); i++) {
            String line = lines.get(i);
            CHECK.holds("plain letters in line " + (i + 1), line.chars().allMatch(c -> c >= 32 && c < 127));
            if (line.matches(" {4}( {4})?\\S.*\\) \\{")) {
                begun = i;
            }
            if (begun >= 0 && line.matches(" {4}( {4})?\\}")) {
                CHECK.holds("rule 11: sixty lines: " + lines.get(begun), i - begun < 60);
                begun = -1;
            }
        }
    }
}
