import java.lang.reflect.Method;
import java.util.HashMap;
import java.util.Map;
import java.util.Random;

// Asks FairNext and Model the same, by rows of calls that are drawn, always the same ones.
public final class ModelTest {
    private static final int OBJECTS = 150, CALLS = 512;

    // each call with the least and the most of each of its numbers; the more often, the likelier
    private static final String[] SORTS = {
        "year 0 23 -1 9", "year 0 23 -1 9", "mark 0 23 0 9", "yearOf 0 23 0 1", "villages 2 10",
        "hold 0 5 0 4 0 4 1 4", "hold 0 5 0 4 0 4 1 4", "ruleOf 0 5 0 5", "drop 0 5", "says 0 5 0 99", "says 0 5 0 30",
        "run 0 5", "believed 0 5 1 9", "believed 0 5 1 3", "on 0 5 0 99", "on 0 5 0 30", "here 0 5 0 9 0 99", "never 0 5",
        "fits 0 9", "plainest 0 9 0 5", "odds 0 99 0 9 0 9 0 1", "odds 0 30 0 9 0 3 0 1", "bet 0 30 0 9", "bet 0 30 0 3",
        "hard 0 30 0 9", "hard 0 99 0 3", "sure 0 30 0 3", "sure 0 99 0 9", "leave 0 9", "leave 0 2",
        "camp 0 30 0 9", "camp 0 99 0 3", "seed 0 99", "draw 0 30 0 9", "draw 0 99 0 3",
        "prove 0 5", "row 0 23 0 2", "row 0 4 0 2", "alterRow 0 5 0 2 0 9", "judge 0 5", "judge 0 5", "years 0 3 0 10 0 23 0 24",
        "years 0 1 0 5 0 20 0 4", "sheet 0 3 -1 3 0 40", "sheet 0 1 0 0 0 40", "put 0 3 0 39 -1 300", "put 0 1 0 9 0 9",
        "item 0 3 0 3 0 39", "shelf 0 3 0 2 0 5", "shelf 0 3 0 0 0 5", "taken 0 3 0 5", "taken 0 3 10 13", "act 0 3 0 3 -99 99",
        "act 0 3 0 3 -99 99", "act 0 3 0 3 -99 99", "trace 0 9", "trace 0 9", "many 0 6", "many 0 6", "keep", "again", "feed 0 99 1 8", "book"};

    private final Random random;
    private final FairNext x = new FairNext();
    private final Model model = new Model();
    private final StringBuilder calls = new StringBuilder();
    private final Map<String, Method> ofFair = methods(FairNext.class);
    private final Map<String, Method> ofModel = methods(Model.class);
    private int made = 0;
    private boolean differs = false;

    private ModelTest(int seed) {
        random = new Random(seed);
    }

    public static void main(String[] args) throws Exception {
        for (int seed = 1; seed <= OBJECTS; seed++) {
            new ModelTest(seed).run();
        }
        Due.end("ModelTest");
    }

    private static Map<String, Method> methods(Class<?> of) {
        Map<String, Method> methods = new HashMap<>();
        for (Method m : of.getDeclaredMethods()) {
            if (!java.lang.reflect.Modifier.isPrivate(m.getModifiers())) {
                methods.put(m.getName(), m);
            }
        }
        return methods;
    }

    private void run() throws Exception {
        while (made < CALLS && !differs) {
            int sort = random.nextInt(60);
            if (sort == 0) {
                readText();
            } else if (sort == 1) {
                followRule();
            } else {
                askOne(SORTS[random.nextInt(SORTS.length)]);
            }
        }
    }

    private void askOne(String sort) throws Exception {
        String[] parts = sort.split(" ");
        Object[] numbers = new Object[(parts.length - 1) / 2];
        for (int i = 0; i < numbers.length; i++) {
            numbers[i] = number(Integer.parseInt(parts[2 * i + 1]), Integer.parseInt(parts[2 * i + 2]));
        }
        if (parts[0].equals("feed")) {
            numbers[0] = random.nextLong();
        }
        if (parts[0].equals("seed") && random.nextBoolean()) {
            numbers[0] = random.nextInt();
        }
        ask(parts[0], numbers);
    }

    private int number(int least, int most) {
        int way = random.nextInt(100);
        if (way == 0) {
            int[] far = {Integer.MIN_VALUE, Integer.MAX_VALUE, Integer.MIN_VALUE + 1, 1 << 30, random.nextInt()};
            return far[random.nextInt(far.length)];
        }
        if (way < 4) {
            return random.nextBoolean() ? least - 1 : most + 1;
        }
        return least + random.nextInt(most - least + 1);
    }

    private int ask(String name, Object... numbers) throws Exception {
        if (made >= CALLS || differs) {
            return 0;
        }
        made++;
        int got = (int) ofFair.get(name).invoke(x, numbers);
        int want = (int) ofModel.get(name).invoke(model, numbers);
        calls.append(name).append(java.util.Arrays.toString(numbers)).append(' ').append(want).append('\n');
        Due.is(name + java.util.Arrays.toString(numbers), got, want);
        if (got != want) {
            differs = true;
            System.out.println("the calls till then:\n" + calls);
        }
        return want;
    }

    // tells years as a rule says them, but for a few
    private void followRule() throws Exception {
        ask("book");
        ask("villages", number(4, 10));
        ask("hold", number(0, 5), number(0, 4), number(0, 4), number(1, 4));
        int years = 4 + random.nextInt(20);
        for (int year = 0; year < years; year++) {
            int v = ask("says", 0, year);
            boolean other = v < 0 || v > 9 || random.nextInt(12) == 0;
            if (random.nextInt(8) == 0) {
                ask("mark", year, number(0, 9));
            }
            ask("year", year, other ? random.nextInt(11) - 1 : v);
        }
    }

    private void readText() throws Exception {
        ask("book");
        StringBuilder text = new StringBuilder();
        int sentences = 1 + random.nextInt(12);
        for (int i = 0; i < sentences; i++) {
            text.append(sentence());
        }
        int spoils = random.nextInt(3) == 0 ? 1 + random.nextInt(2) : 0;
        for (int i = 0; i < spoils && text.length() > 0; i++) {
            spoil(text, random.nextInt(text.length()));
        }
        for (int from = 0; from < text.length(); from += 8) {
            int n = Math.min(8, text.length() - from);
            long eight = random.nextLong() << 1;
            for (int j = 0; j < n; j++) {
                eight = eight & ~(255L << 8 * j) | (text.charAt(from + j) & 255L) << 8 * j;
            }
            ask("feed", eight, n);
        }
        ask("book");
    }

    private String sentence() {
        String[] kinds = {"rule", "line", "back", "table", "marked", "turned"};
        int sort = random.nextInt(10);
        if (sort == 0) {
            return "villages " + number(2, 10) + ";";
        }
        if (sort < 6) {
            String mark = random.nextBoolean() ? " mark " + number(0, 9) : "";
            return "year " + number(0, 23) + " at " + number(0, 9) + mark + blank() + ";" + blank();
        }
        if (sort == 6) {
            return "lost " + number(0, 23) + (random.nextBoolean() ? " mark 0" + number(0, 9) : "") + ";";
        }
        return kinds[random.nextInt(6)] + " " + number(0, 4) + blank() + " " + number(0, 4) + " " + number(1, 4) + ";";
    }

    private String blank() {
        return random.nextInt(4) == 0 ? " " : "";
    }

    private void spoil(StringBuilder text, int at) {
        String signs = "abykmz0123456789;;  A\t\u00e9\u00ff";
        char sign = signs.charAt(random.nextInt(signs.length()));
        switch (random.nextInt(4)) {
            case 0 -> text.deleteCharAt(at);
            case 1 -> text.insert(at, sign);
            case 2 -> text.setCharAt(at, sign);
            default -> text.setLength(at);
        }
    }
}
