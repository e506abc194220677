import java.io.IOException;
import java.lang.reflect.Method;
import java.lang.reflect.Modifier;
import java.nio.file.Files;
import java.nio.file.Path;
import java.util.ArrayList;
import java.util.List;
import java.util.regex.Matcher;
import java.util.regex.Pattern;

// README.md tells no use that isn't so: its calls are asked, one behind the other, of one object.
public final class ReadmeTest {
    private static final String MADE = "FairNext fair = new FairNext();";
    private static final Pattern CALL = Pattern.compile("fair\\.(\\w+)\\(([^)]*)\\); +// (-?\\d+)(:.*)?");
    private static final Pattern TEXT = Pattern.compile("read\\(fair, \"([^\"]*)\"\\); +// (-?\\d+)(:.*)?");

    private ReadmeTest() {
    }

    public static void main(String[] args) throws IOException {
        String readme = Files.readString(Path.of("README.md"));
        List<String> blocks = blocks(readme);
        Due.is("blocks of Java in README.md", blocks.size(), 2);
        asked(blocks.get(0));
        helper(blocks.get(1));
        everyCall(readme);
        Due.end("ReadmeTest");
    }

    private static List<String> blocks(String readme) {
        List<String> blocks = new ArrayList<>();
        Matcher m = Pattern.compile("(?s)```java\n(.*?)```").matcher(readme);
        while (m.find()) {
            blocks.add(m.group(1));
        }
        return blocks;
    }

    private static void asked(String block) {
        FairNext fair = new FairNext();
        for (String line : block.split("\n")) {
            Matcher call = CALL.matcher(line);
            Matcher text = TEXT.matcher(line);
            if (call.matches()) {
                String numbers = call.group(2).replace(",", " ");
                Due.is(line, Edge.answer(fair, call.group(1) + " " + numbers), Long.parseLong(call.group(3)));
            } else if (text.matches()) {
                Due.is(line, read(fair, text.group(1)), Long.parseLong(text.group(2)));
            } else {
                Due.is("a line that tells no answer: " + line, line.equals(MADE) ? 1 : 0, 1);
            }
        }
    }

    // as README.md tells it, letter by letter
    static int read(FairNext fair, String text) {
        for (int from = 0; from < text.length(); from += 8) {
            int n = Math.min(8, text.length() - from);
            long eight = 0;
            for (int i = 0; i < n; i++) {
                eight |= (text.charAt(from + i) & 255L) << 8 * i;
            }
            fair.feed(eight, n);
        }
        return fair.book();
    }

    private static void helper(String block) throws IOException {
        String own = Files.readString(Path.of("src/test/java/ReadmeTest.java"));
        Due.is("read() of README.md is the one that stands here", own.contains(block.indent(4)) ? 1 : 0, 1);
    }

    private static void everyCall(String readme) {
        for (Method m : FairNext.class.getDeclaredMethods()) {
            if (Modifier.isPublic(m.getModifiers())) {
                Due.is("README.md names " + m.getName(), readme.contains("`" + m.getName() + "`") ? 1 : 0, 1);
            }
        }
    }
}
