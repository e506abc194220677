import java.lang.reflect.InvocationTargetException;
import java.lang.reflect.Method;
import java.util.ArrayList;
import java.util.Arrays;
import java.util.HashMap;
import java.util.List;
import java.util.Map;
import java.util.function.Supplier;

// How the tests of edges ask: calls are told as "name number number ... = answer", where MIN and MAX
// are the least and the greatest int.
final class Edge {
    private static final Map<String, Method> CALLS = calls();

    private Edge() {
    }

    private static Map<String, Method> calls() {
        Map<String, Method> calls = new HashMap<>();
        for (Method m : FairNext.class.getDeclaredMethods()) {
            calls.put(m.getName(), m);
        }
        return calls;
    }

    private static long number(String word) {
        return word.equals("MIN") ? Integer.MIN_VALUE : word.equals("MAX") ? Integer.MAX_VALUE : Long.decode(word);
    }

    static int answer(FairNext x, String call) {
        String[] words = call.trim().split(" +");
        Method m = CALLS.get(words[0]);
        Object[] numbers = new Object[words.length - 1];
        for (int i = 0; i < numbers.length; i++) {
            long v = number(words[i + 1]);
            if (m.getParameterTypes()[i] == long.class) {
                numbers[i] = v;
            } else {
                numbers[i] = Math.toIntExact(v);
            }
        }
        try {
            return (int) m.invoke(x, numbers);
        } catch (IllegalAccessException | InvocationTargetException e) {
            throw new IllegalStateException(call, e);
        }
    }

    // Each call is asked, one behind the other, of one object.
    static void ask(FairNext x, String... calls) {
        for (String call : calls) {
            String[] sides = call.split("=");
            Due.is(call, answer(x, sides[0]), number(sides[1].trim()));
        }
    }

    // The same calls of a new object.
    static FairNext asked(String... calls) {
        FairNext x = new FairNext();
        ask(x, calls);
        return x;
    }

    // Each call is asked of an object in use of its own: it answers so, and changes nothing.
    static void refused(int due, String... calls) {
        refusedOf(Edge::inUse, due, calls);
    }

    static void refusedOf(Supplier<FairNext> object, int due, String... calls) {
        for (String call : calls) {
            changesOf(object, call, due);
        }
    }

    // Each call is asked of an object in use: whatever it answers, it changes nothing.
    static void reads(String... calls) {
        Map<String, List<Integer>> before = Whole.of(inUse());
        for (String call : calls) {
            FairNext x = inUse();
            answer(x, call);
            same(call, before, Whole.of(x));
        }
    }

    // The call is asked of an object in use: it answers so, and changes these parts and no other.
    static void changes(String call, int due, String... parts) {
        changesOf(Edge::inUse, call, due, parts);
    }

    static void changesOf(Supplier<FairNext> object, String call, int due, String... parts) {
        Map<String, List<Integer>> before = Whole.of(object.get());
        FairNext x = object.get();
        Due.is(call, answer(x, call), due);
        same(call, before, Whole.of(x), parts);
    }

    private static void same(String call, Map<String, List<Integer>> before, Map<String, List<Integer>> after, String... but) {
        for (String part : before.keySet()) {
            boolean same = before.get(part).equals(after.get(part));
            boolean due = !Arrays.asList(but).contains(part);
            Due.is("whether " + call + " leaves " + part + " as it was", same ? 1 : 0, due ? 1 : 0);
        }
    }

    // An object in which everything is in use:
    // 7 VILLAGES, so that none FITS by 0 (YEAR 8 is told at 9); four YEARS are told, LAST is 9;
    // six RULES, one of each KIND by its number, are HELD; z is 77; four ROWS, one altered;
    // a good text of 199 bytes on THE TAPE; SHEETS of 3 bytes, of 2 shorts, none, of 2 longs;
    // on the SHELVES RULE 5, the bytes, nothing, a row of 4 ints that no SHEET is any more;
    // a TRACE of nine bodies; another book, with z 55, is kept.
    static FairNext inUse() {
        FairNext x = asked("villages 5 = 10", "year 1 4 = -9", "year 22 3 = -9", "mark 1 2 = 0", "hold 4 3 2 1 = 0",
            "seed 55 = 1", "keep = 1", "seed 77 = 55", "villages 7 = 5", "drop 0 = 0", "year 22 -1 = 3",
            "year 0 3 = -9", "year 1 5 = 4", "year 3 6 = -9", "year 8 9 = -9",
            "mark 1 0 = 2", "mark 3 1 = 0", "mark 4 9 = 0", "mark 8 4 = 0", "mark 23 8 = 0",
            "hold 0 0 3 1 = 0", "hold 1 2 3 1 = 1", "hold 2 1 2 3 = 2", "hold 3 0 0 2 = 3", "hold 4 4 1 1 = 4", "hold 5 4 0 2 = 5",
            "prove 1 = 4", "alterRow 2 1 -77 = 2",
            "sheet 0 0 3 = 1", "put 0 0 5 = 1", "put 0 1 -6 = 1", "put 0 2 127 = 1",
            "sheet 1 1 2 = 1", "put 1 0 -300 = 1", "sheet 2 2 4 = 1", "sheet 3 3 2 = 1", "put 3 0 -12 = 1", "put 3 1 9 = 1",
            "shelf 0 0 5 = 1", "shelf 1 1 0 = 1", "shelf 3 1 2 = 1", "sheet 2 -1 0 = 1", "act 0 3 7 = -68");
        Due.feed(x, padded("villages 3;year 7 at 8 mark 9;lost 4;turned 4 3 2;", 199));
        return x;
    }

    static String padded(String text, int length) {
        return text + " ".repeat(length - text.length());
    }

    // What book() answers to a text, on a new object.
    static void text(String text, int due) {
        Due.is("book() of '" + text + "'", Due.read(new FairNext(), text), due);
    }

    static void texts(int due, String... texts) {
        for (String text : texts) {
            text(text, due);
        }
    }

    // With as many YEARS told at 9 of 5 VILLAGES each of ALL RULES misses just these, as 9 is no rest by 5.
    static FairNext missed(int many) {
        FairNext x = asked("villages 5 = 10");
        for (int year = 0; year < many; year++) {
            ask(x, "year " + year + " 9 = -9");
        }
        return x;
    }

    // Puts z where the next DRAWN has this z >>> 16 (0 to 65535).
    static void aim(FairNext x, int high) {
        int inverse = 1;
        for (int i = 0; i < 5; i++) {
            inverse *= 2 - 1103515245 * inverse;
        }
        x.seed(((high << 16) - 12345) * inverse);
    }

    static List<Integer> answers(FairNext x, String call, int from, int to) {
        List<Integer> answers = new ArrayList<>();
        for (int i = from; i <= to; i++) {
            answers.add(answer(x, call.replace("#", Integer.toString(i))));
        }
        return answers;
    }
}
