import java.lang.reflect.Constructor;
import java.lang.reflect.Field;
import java.lang.reflect.Method;
import java.lang.reflect.Modifier;
import java.nio.charset.StandardCharsets;
import java.nio.file.Files;
import java.nio.file.Path;
import java.util.ArrayList;
import java.util.Collections;
import java.util.List;
import java.util.regex.Matcher;
import java.util.regex.Pattern;

// The face of the class is the document's, and its source keeps to what LANGUAGE.md leaves,
// as far as words tell it.
public final class LanguageTest {
    private static final String DOCUMENT = "../shared/DOC.md", SOURCE = "src/main/java/FairNext.java";
    private static final String[] NOT_ALLOWED = {"throw", "throws", "try", "catch", "finally", "synchronized", "assert",
        "import", "package", "protected", "default\\s*->", "->", "::", "hashCode", "toString", "System\\.(?!arraycopy)",
        "[A-Za-z]+Exact", "Object", "Random", "Thread", "Class", "float", "double", "native", "volatile"};

    public static void main(String[] args) throws Exception {
        face();
        words();
        sizes();
        objectsAreMadeOnce();
        Due.end("LanguageTest");
    }

    private static void face() throws Exception {
        Due.is("public and final", FairNext.class.getModifiers(), Modifier.PUBLIC | Modifier.FINAL);
        same("calls", callsOfDocument(), callsOfClass());
        List<String> constants = new ArrayList<>();
        for (Field f : FairNext.class.getDeclaredFields()) {
            if (!Modifier.isPrivate(f.getModifiers())) {
                constants.add(f.getName() + " " + f.getModifiers() + " " + f.getType());
            }
            Due.is("final, if static: " + f.getName(), Modifier.isStatic(f.getModifiers())
                && !Modifier.isFinal(f.getModifiers()) ? 1 : 0, 0);
        }
        List<String> due = new ArrayList<>();
        for (String name : new String[] {"BAD", "FULL", "NONE", "STATE"}) {
            due.add(name + " " + (Modifier.PUBLIC | Modifier.STATIC | Modifier.FINAL) + " int");
        }
        same("constants", due, constants);
        Due.is("BAD", FairNext.BAD, -1);
        Due.is("FULL", FairNext.FULL, -2);
        Due.is("NONE", FairNext.NONE, -3);
        Due.is("STATE", FairNext.STATE, -4);
        Due.is("constructors", FairNext.class.getDeclaredConstructors().length, 1);
        Constructor<FairNext> made = FairNext.class.getDeclaredConstructor();
        Due.is("the constructor", made.getModifiers(), Modifier.PUBLIC);
        for (Class<?> inside : FairNext.class.getDeclaredClasses()) {
            Due.is("static inside: " + inside, inside.getModifiers() & Modifier.STATIC, Modifier.STATIC);
            Due.is("not public inside: " + inside, inside.getModifiers() & (Modifier.PUBLIC | Modifier.PROTECTED), 0);
            Due.is("few fields: " + inside, inside.getDeclaredFields().length > 20 ? 1 : 0, 0);
        }
    }

    private static List<String> callsOfDocument() throws Exception {
        String face = Files.readString(Path.of(DOCUMENT));
        face = face.substring(face.indexOf("public final class FairNext {"), face.indexOf("## Terms"));
        List<String> calls = new ArrayList<>();
        Matcher m = Pattern.compile("public int (\\w+)\\(([^)]*)\\);").matcher(face);
        while (m.find()) {
            calls.add(m.group(1) + "(" + m.group(2).replaceAll("(int|long) \\w+", "$1").replace(" ", "") + ")");
        }
        return calls;
    }

    private static List<String> callsOfClass() {
        List<String> calls = new ArrayList<>();
        List<String> within = new ArrayList<>();
        for (Method m : FairNext.class.getDeclaredMethods()) {
            if (Modifier.isPrivate(m.getModifiers())) {
                within.add(m.getName());
                continue;
            }
            List<String> types = new ArrayList<>();
            for (Class<?> type : m.getParameterTypes()) {
                types.add(type.getName());
            }
            calls.add(m.getName() + "(" + String.join(",", types) + ")");
            Due.is("public: " + m, m.getModifiers(), Modifier.PUBLIC);
            Due.is("answers an int: " + m, m.getReturnType() == int.class ? 1 : 0, 1);
        }
        for (String call : calls) {
            Due.is("a private one with the name of " + call, within.contains(call.substring(0, call.indexOf('('))) ? 1 : 0, 0);
        }
        return calls;
    }

    private static void same(String what, List<String> due, List<String> got) {
        Collections.sort(due);
        Collections.sort(got);
        Due.is(what + " " + got + ", due are " + due, got.equals(due) ? 1 : 0, 1);
    }

    private static void words() throws Exception {
        byte[] bytes = Files.readAllBytes(Path.of(SOURCE));
        for (byte b : bytes) {
            if (b < 1) {
                Due.is("a sign that isn't 1 to 127", b, 1);
            }
        }
        String source = new String(bytes, StandardCharsets.ISO_8859_1).replaceAll("//[^\n]*", "");
        for (String word : NOT_ALLOWED) {
            String edge = word.matches("\\w.*") ? "\\b" : "";
            Due.is("no " + word, Pattern.compile(edge + "(" + word + ")" + (word.matches(".*\\w") ? "\\b" : ""))
                .matcher(source).find() ? 1 : 0, 0);
        }
    }

    // At most some twelve classes, seven parameters a method and sixty lines.
    private static void sizes() throws Exception {
        List<Class<?>> classes = new ArrayList<>(List.of(FairNext.class.getDeclaredClasses()));
        classes.add(FairNext.class);
        Due.is("at most twelve classes, there are " + classes.size(), classes.size() <= 12 ? 1 : 0, 1);
        for (Class<?> c : classes) {
            Due.is("no class further inside: " + c, c == FairNext.class ? 0 : c.getDeclaredClasses().length, 0);
            for (Method m : c.getDeclaredMethods()) {
                Due.is("at most seven parameters: " + m, m.getParameterCount() <= 7 ? 1 : 0, 1);
                Due.is("no more than int, long, boolean, arrays, String and own classes: " + m, allowed(m, classes) ? 1 : 0, 1);
            }
        }
        Matcher m = Pattern.compile("(?m)^( {4}| {8})[^\\s/}].*\\) \\{\n(.*\n)*?\\1\\}$").matcher(Files.readString(Path.of(SOURCE)));
        int methods = 0;
        while (m.find()) {
            methods++;
            String head = m.group().substring(0, m.group().indexOf('\n')).trim();
            Due.is("at most sixty lines: " + head, m.group().lines().count() <= 60 ? 1 : 0, 1);
        }
        Due.is("methods found", methods > 100 ? 1 : 0, 1);
    }

    private static boolean allowed(Method m, List<Class<?>> own) {
        List<Class<?>> types = new ArrayList<>(List.of(m.getParameterTypes()));
        types.add(m.getReturnType());
        types.removeAll(List.of(int.class, long.class, boolean.class, void.class, int[].class, String.class));
        types.removeAll(own);
        return types.isEmpty();
    }

    // Objects and arrays come into being with the object alone: no line within a method makes one.
    private static void objectsAreMadeOnce() throws Exception {
        for (String line : Files.readAllLines(Path.of(SOURCE))) {
            if (line.matches(".*\\bnew\\b.*;") && !line.trim().startsWith("//")) {
                Due.is("made with a field: " + line.trim(), line.matches("( {4}private| {8}) ?final .*") ? 1 : 0, 1);
            }
        }
    }
}
