import java.io.IOException;
import java.nio.file.Files;
import java.nio.file.Path;
import java.util.Map;
import java.util.TreeMap;
import java.util.regex.Matcher;
import java.util.regex.Pattern;

// Names the sentence of the document that is tested next. At the end it tells what no test has
// named, so that a sentence can't be left out unseen.
final class Sentence {
    static final int USE = -1, TERMS = 0, PROMISES = 41;

    private static final Map<Integer, String> PARTS = parts();
    private static final Map<Integer, boolean[]> NAMED = new TreeMap<>();
    private static String latest = "";
    private static int askedThen = 0;

    private Sentence() {
    }

    // Part 0 is "Terms", each other one the promise of that number.
    static void of(int part, String words) {
        end();
        latest = words;
        askedThen = Due.asked();
        Due.about((part > 0 ? part + " " : "") + "\"" + words + "\": ");
        String text = PARTS.getOrDefault(part, "");
        boolean[] named = NAMED.computeIfAbsent(part, p -> new boolean[text.length()]);
        int at = text.indexOf(words);
        if (at < 0) {
            Due.is("stands in the document", 0, 1);
        }
        for (; at >= 0; at = text.indexOf(words, at + 1)) {
            java.util.Arrays.fill(named, at, at + words.length(), true);
        }
    }

    private static void end() {
        if (!latest.isEmpty() && Due.asked() == askedThen) {
            Due.is("asks something", 0, 1);
        }
        latest = "";
        Due.about("");
    }

    static void allNamed() {
        end();
        for (int part = TERMS; part <= PROMISES; part++) {
            String text = PARTS.getOrDefault(part, "");
            boolean[] named = NAMED.getOrDefault(part, new boolean[text.length()]);
            Due.is("part " + part + " of the document has words", text.isBlank() ? 0 : 1, 1);
            StringBuilder left = new StringBuilder();
            for (int i = 0; i < text.length(); i++) {
                left.append(named[i] || !Character.isLetterOrDigit(text.charAt(i)) ? ' ' : text.charAt(i));
            }
            Due.is("words of part " + part + " that no test has named: " + left.toString().trim().replaceAll(" +", " "),
                left.toString().isBlank() ? 1 : 0, 1);
        }
    }

    private static Map<Integer, String> parts() {
        Map<Integer, String> parts = new TreeMap<>();
        Matcher m = Pattern.compile("\n## ([^\n]*)\n(.*?)(?=\n## |$)", Pattern.DOTALL).matcher(document());
        while (m.find()) {
            String head = m.group(1);
            String text = m.group(2);
            if (head.equals("What it is")) {
                parts.put(USE, text);
            } else if (head.equals("Terms")) {
                // what the interface says ahead of some calls names no behaviour
                parts.put(TERMS, text.replaceAll("```\\w*|(?m)^Ahead of the calls.*$", ""));
            } else if (head.startsWith("Promise ")) {
                int number = Integer.parseInt(head.substring(8, head.indexOf(':')));
                parts.put(number, text.substring(text.indexOf("`: ") + 3));
            }
        }
        return parts;
    }

    private static String document() {
        try {
            return Files.readString(Path.of("../shared/DOC.md"));
        } catch (IOException e) {
            throw new IllegalStateException(e);
        }
    }
}
