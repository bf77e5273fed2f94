import java.io.IOException;
import java.nio.file.Files;
import java.nio.file.Path;
import java.util.ArrayList;
import java.util.BitSet;
import java.util.List;
import java.util.Map;
import java.util.TreeMap;
import java.util.function.Supplier;

/**
 * Holds answers against sentences of the document: says() takes the words that are held from there
 * on, and finish() tells the words of its parts of the document that none was held against.
 */
final class Sentences {
    static final long FAR = 1000000000L;
    static final long FAR_LONG = 4000000000000000000L;

    interface Call {
        long on(PureGroups x);
    }

    private static final Path DOC = Path.of("../shared/DOC.md");

    private final String name;
    private final Check check;
    private final Map<String, StringBuilder> parts = new TreeMap<>();
    private final Map<String, BitSet> held = new TreeMap<>();
    private String now = "";

    Sentences(String name) {
        this.name = name;
        check = new Check(name);
        try {
            split(Files.readAllLines(DOC));
        } catch (IOException e) {
            throw new IllegalStateException("no " + DOC, e);
        }
    }

    /** Term 1 .. 4, Fractions (with the REFUSALS), Promise 1 .. 41, and each heading's own name. */
    private void split(List<String> lines) {
        String part = "";
        for (String line : lines) {
            String text = line;
            if (text.startsWith("## ")) {
                part = text.replaceAll("^## |:.*$", "");
                text = "";
            } else if (text.matches("==== \\d .*")) {
                part = "Term " + text.charAt(5);
                text = text.substring(6);
            } else if (text.startsWith("Fractions are told")) {
                part = "Fractions";
            } else if (text.startsWith("Ahead of the calls")) {
                part = "";
            } else if (text.startsWith("```")) {
                text = "";
            }
            if (part.startsWith("Promise")) {
                text = text.replaceFirst("^`[^`]*`: *", "");
            }
            parts.computeIfAbsent(part, p -> new StringBuilder()).append(plain(text)).append(' ');
        }
    }

    private static String plain(String text) {
        return text.trim().replaceAll("\\s+", " ");
    }

    /** From here on answers are held against these words of a part. */
    void says(String part, String words) {
        now = part + ", \"" + words + "\": ";
        String text = plain(parts.getOrDefault(part, new StringBuilder()).toString());
        BitSet bits = held.computeIfAbsent(part, p -> new BitSet());
        String sought = plain(words);
        int at = text.indexOf(sought);
        check.holds(now + "stands in the document", at >= 0);
        while (at >= 0) {
            bits.set(at, at + sought.length());
            at = text.indexOf(sought, at + 1);
        }
    }

    void due(String call, long got, long want) {
        check.due(now + call, got, want);
    }

    /**
     * A refused call on one object, none on its like: all that can be seen of them afterwards must
     * be alike but for the count of the REFUSAL (0: one that isn't counted).
     */
    void refused(String call, Supplier<PureGroups> made, Call refused, long want, int code) {
        PureGroups x = made.get();
        due(call, refused.on(x), want);
        List<Long> after = seen(x);
        List<Long> without = seen(made.get());
        if (code != 0) {
            without.set(-code - 1, without.get(-code - 1) + 1);
        }
        due(call + ": nothing else changed: " + after + " / " + without, after.equals(without) ? 1 : 0, 1);
    }

    /** The counts of REFUSALS -1 .. -6 first; nothing here is refused with a counted one but the last undo(). */
    private static List<Long> seen(PureGroups x) {
        List<Long> all = new ArrayList<>();
        for (int what = 11; what <= 16; what++) {
            all.add((long) x.count(what));
        }
        for (int what = 0; what <= 4; what++) {
            all.add((long) x.count(what));
        }
        for (int list = 0; list < 3; list++) {
            seenList(x, list, all);
        }
        if (x.count(3) != -9) {
            for (int what = 0; what < 3; what++) {
                all.add((long) x.wrong(what));
            }
        }
        all.add((long) x.formula());
        seenQuantities(x, all);
        while (x.count(4) > 0) {
            all.add((long) x.undo());
        }
        seenQuantities(x, all);
        all.add((long) x.on());
        seenQuantities(x, all);
        return all;
    }

    private static void seenList(PureGroups x, int list, List<Long> all) {
        for (int i = 0; i < 41; i++) {
            long number = x.look(list, i);
            all.add(number);
            if (number == FAR + 11 || number == FAR + 13) {
                return;
            }
        }
    }

    private static void seenQuantities(PureGroups x, List<Long> all) {
        int n = x.count(0);
        all.add((long) n);
        for (int q = 0; q < n; q++) {
            all.add((long) x.of(q, 0));
            for (int unit = 0; unit < 5; unit++) {
                all.add((long) x.of(q, 10 + unit));
            }
            all.add((long) x.scaled(q, 0));
            all.add((long) x.scaled(q, 1));
        }
    }

    /** No word of these parts may be without an answer that was held against it. */
    void finish(String... whole) {
        for (String part : whole) {
            String text = plain(parts.getOrDefault(part, new StringBuilder()).toString());
            BitSet bits = held.getOrDefault(part, new BitSet());
            StringBuilder left = new StringBuilder();
            for (int i = 0; i < text.length(); i++) {
                boolean word = Character.isLetterOrDigit(text.charAt(i));
                left.append(bits.get(i) || !word && left.length() == 0 ? "" : text.charAt(i));
            }
            check.holds(name + ": of " + part + " nothing is held against: " + left, left.toString().isBlank() && !text.isBlank());
        }
        check.finish();
    }
}
