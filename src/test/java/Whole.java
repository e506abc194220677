import java.util.ArrayList;
import java.util.LinkedHashMap;
import java.util.List;
import java.util.Map;

// All that an object can tell of itself, part by part. It takes up to 400 calls, and the object is used up.
final class Whole {
    private Whole() {
    }

    static Map<String, List<Integer>> of(FairNext x) {
        Map<String, List<Integer>> parts = new LinkedHashMap<>();
        parts.put("the book", book(x));
        parts.put("the rules", rules(x));
        parts.put("the rows", rows(x));
        parts.put("the sheets", sheets(x));
        parts.put("the shelves", shelves(x));
        parts.put("the trace", Edge.answers(x, "trace #", 0, 9));
        parts.get("the trace").add(x.many(6));
        int z = x.seed(0);
        parts.put("z", List.of(z));
        List<Integer> tape = new ArrayList<>();
        tape.add(x.many(5));
        tape.add(x.book());
        tape.addAll(book(x));
        parts.put("the tape", tape);
        List<Integer> kept = new ArrayList<>();
        kept.add(x.again());
        kept.addAll(book(x));
        kept.addAll(rules(x));
        kept.add(x.seed(0));
        parts.put("what is kept", kept);
        return parts;
    }

    private static List<Integer> book(FairNext x) {
        List<Integer> answers = Edge.answers(x, "yearOf # 0", 0, 23);
        answers.addAll(Edge.answers(x, "yearOf # 1", 0, 23));
        answers.add(x.many(0));
        answers.add(x.many(2));
        answers.add(x.many(3));
        return answers;
    }

    private static List<Integer> rules(FairNext x) {
        List<Integer> answers = new ArrayList<>();
        answers.add(x.many(1));
        for (int rule = 0; rule < x.many(1); rule++) {
            answers.addAll(Edge.answers(x, "ruleOf " + rule + " #", 0, 3));
        }
        return answers;
    }

    private static List<Integer> rows(FairNext x) {
        List<Integer> answers = new ArrayList<>();
        answers.add(x.many(4));
        for (int i = 0; i <= Math.min(8, x.many(4)); i++) {
            answers.addAll(Edge.answers(x, "row " + i + " #", 0, 2));
        }
        return answers;
    }

    private static List<Integer> sheets(FairNext x) {
        List<Integer> answers = new ArrayList<>();
        for (int sheet = 0; sheet < 4; sheet++) {
            for (int sort = 0; sort < 4; sort++) {
                answers.addAll(Edge.answers(x, "item " + sheet + " " + sort + " #", 0, 3));
            }
        }
        return answers;
    }

    private static List<Integer> shelves(FairNext x) {
        List<Integer> answers = new ArrayList<>();
        for (int shelf = 0; shelf < 4; shelf++) {
            answers.addAll(Edge.answers(x, "taken " + shelf + " #", 0, 5));
            answers.addAll(Edge.answers(x, "taken " + shelf + " #", 10, 13));
        }
        return answers;
    }
}
