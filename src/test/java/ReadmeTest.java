import java.io.File;
import java.io.IOException;
import java.lang.reflect.Modifier;
import java.net.URL;
import java.net.URLClassLoader;
import java.nio.file.Files;
import java.nio.file.Path;
import java.util.ArrayList;
import java.util.List;
import java.util.Set;
import java.util.TreeSet;
import java.util.regex.Matcher;
import java.util.regex.Pattern;
import javax.tools.ToolProvider;

/**
 * README.md's examples, compiled as they stand there and run in their order, first with the program,
 * then with the oracle in its place: so what an example says holds for the document's words, too.
 */
public final class ReadmeTest {
    private static final Check CHECK = new Check("ReadmeTest");
    private static final Path README = Path.of("README.md");
    private static final Path DOC = Path.of("../shared/DOC.md");
    private static final Pattern CALL = Pattern.compile("(\\w+\\.(\\w+)\\(.*?\\)); +// (-?\\d+)(: .+)?");

    private final List<String> code = new ArrayList<>();
    private final Set<String> shown = new TreeSet<>();

    public static void main(String[] args) throws Exception {
        ReadmeTest readme = new ReadmeTest();
        readme.readBlocks();
        readme.showsEveryCall();
        tellsWhatIsAsked();
        tellsWhoIsFar();
        readme.run();
        CHECK.finish();
    }

    private void readBlocks() throws IOException {
        List<String> lines = Files.readAllLines(README);
        boolean inside = false;
        for (int i = 0; i < lines.size(); i++) {
            String line = lines.get(i);
            if (line.startsWith("```")) {
                inside = line.equals("```java");
            } else if (inside) {
                take("README.md:" + (i + 1) + " ", line);
            }
        }
    }

    /** A line that begins with a call tells its answer; all others (new, loops of letters) stay as they are. */
    private void take(String where, String line) {
        Matcher m = CALL.matcher(line);
        if (m.matches()) {
            shown.add(m.group(2));
            code.add("check.due(\"" + where + m.group(1) + "\", " + m.group(1) + ", " + m.group(3) + "L);");
        } else {
            CHECK.holds(where + "tells its answer", !line.matches("\\w+\\..*"));
            code.add(line);
        }
    }

    private void showsEveryCall() {
        for (var method : PureGroups.class.getDeclaredMethods()) {
            String name = method.getName();
            if (Modifier.isPublic(method.getModifiers()) && !name.equals("letter")) {
                CHECK.holds("an example of " + name + "()", shown.contains(name));
            }
        }
        CHECK.holds("an example of letter()", String.join("\n", code).contains("x.letter(c)"));
    }

    /** What the page must tell beside its examples. */
    private static void tellsWhatIsAsked() throws IOException {
        String page = Files.readString(README).replaceAll("\\s+", " ");
        String[] words = {"at most 512 calls after it has been made", "new PureGroups()", "-1000 less the place", ".ci/run",
            "exit code 0", "`javac`", "`java`", "../shared", "-9 is no REFUSAL"};
        for (String word : words) {
            CHECK.holds("tells \"" + word + "\"", page.contains(word));
        }
        for (int code : new int[] {-1, -2, -3, -4, -6, -11, -13, -14, -16}) {
            CHECK.holds("tells what " + code + " says", page.contains("| " + code + " |"));
        }
        for (int code : new int[] {-1, -2, -3, -4, -6, -11, -13}) {
            CHECK.holds("tells " + code + " far", page.contains("| " + (Sentences.FAR - code) + " |"));
        }
        for (int code : new int[] {-1, -2, -3, -11}) {
            CHECK.holds("tells " + code + " far, as a long", page.contains("| " + (Sentences.FAR_LONG - code) + " |"));
        }
    }

    /** The page's line on the calls that are refused far, against the document's promises. */
    private static void tellsWhoIsFar() throws IOException {
        Set<String> told = new TreeSet<>();
        String page = Files.readString(README);
        int from = Math.max(0, page.indexOf("- Far are"));
        Matcher names = Pattern.compile("`(\\w+)`").matcher(page.substring(from, Math.max(from, page.indexOf("all others", from))));
        while (names.find()) {
            told.add(names.group(1));
        }
        Set<String> due = new TreeSet<>();
        Matcher promises = Pattern.compile("`(?:int|long) (\\w+)\\([^`]*`:[^\n]* Refused far").matcher(Files.readString(DOC));
        while (promises.find()) {
            due.add(promises.group(1));
        }
        CHECK.holds("far are " + due + ", told are " + told, told.equals(due) && !due.isEmpty());
    }

    private String program() {
        String calls = String.join("\n", code);
        return "public final class ReadmeExamples {\n"
            + "public static int wrong() { Check check = new Check(\"README.md\"); program(check); oracle(check); return check.wrong(); }\n"
            + "static void program(Check check) {\n" + calls + "\n}\n"
            + "static void oracle(Check check) {\n" + calls.replaceAll("\\bPureGroups\\b", "Oracle") + "\n}\n}\n";
    }

    private void run() throws Exception {
        Path place = Files.createTempDirectory("readme");
        Path source = place.resolve("ReadmeExamples.java");
        Path compiled = place.resolve("ReadmeExamples.class");
        String classes = System.getProperty("java.class.path");
        try {
            Files.writeString(source, program());
            int left = ToolProvider.getSystemJavaCompiler().run(null, null, null,
                "--release", "17", "-cp", classes, "-d", place.toString(), source.toString());
            CHECK.due("compiling README.md's examples", left, 0);
            if (left == 0) {
                CHECK.due("wrong answers in README.md's examples", wrongIn(place, classes), 0);
            }
        } finally {
            Files.deleteIfExists(compiled);
            Files.deleteIfExists(source);
            Files.deleteIfExists(place);
        }
    }

    /** All classes anew in one loader: classes of two loaders don't see what isn't public. */
    private static int wrongIn(Path place, String classes) throws Exception {
        List<URL> all = new ArrayList<>(List.of(place.toUri().toURL()));
        for (String one : classes.split(File.pathSeparator)) {
            all.add(Path.of(one).toUri().toURL());
        }
        try (URLClassLoader loader = new URLClassLoader(all.toArray(new URL[0]), ClassLoader.getPlatformClassLoader())) {
            return (int) loader.loadClass("ReadmeExamples").getMethod("wrong").invoke(null);
        }
    }
}
