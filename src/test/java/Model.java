import java.math.BigInteger;
import java.util.ArrayList;
import java.util.Arrays;
import java.util.List;
import java.util.TreeMap;
import java.util.regex.Matcher;
import java.util.regex.Pattern;

// The document once more, written from its words without a thought for speed, with the Java
// library and with exceptions; ModelTest asks it and FairNext the same.
final class Model {
    static final int BAD = -1, FULL = -2, NONE = -3;

    record Rule(int kind, int a, int b, int k) {
        int words() {
            int words = 1;
            if (a != 0) words++;
            if (b != 0) words++;
            if (k != 1) words++;
            return words;
        }

        int share() {
            return new int[] {0, 64, 16, 4, 1}[words()];
        }
    }

    record Kept(Integer[] village, int[] mark, int n, List<Rule> held, int z) {
    }

    private static final List<Rule> ALL = new ArrayList<>();

    static {
        for (int kind = 0; kind <= 5; kind++)
            for (int a = 0; a <= 4; a++)
                for (int b = 0; b <= 4; b++)
                    for (int k = 1; k <= 4; k++) ALL.add(new Rule(kind, a, b, k));
    }

    private Integer[] village = new Integer[24];
    private int[] mark = new int[24];
    private int n = 10;
    private List<Rule> held = new ArrayList<>();
    private int z = 1;
    private StringBuilder tape = new StringBuilder();
    private final List<int[]> rows = new ArrayList<>();
    private final Object[] sheets = new Object[4];
    private final Object[] shelves = new Object[4];
    private final List<Integer> ran = new ArrayList<>();
    private Kept kept = null;

    private static boolean in(long v, long least, long most) {
        return least <= v && v <= most;
    }

    int feed(long eight, int many) {
        if (!in(many, 1, 8)) return BAD;
        if (tape.length() + many > 200) return FULL;
        for (int i = 0; i < many; i++) tape.append((char) (eight >> 8 * i & 255));
        return tape.length();
    }

    // ---- the text

    private static final class Fault extends Exception {
        private static final long serialVersionUID = 1;
        final int place;

        Fault(int place) {
            this.place = place;
        }
    }

    private record Word(int place, String text) {
    }

    private final class Text {
        final List<Word> words = new ArrayList<>();
        final int end;
        int next = 0;

        Text(String all) {
            end = all.length();
            Matcher m = Pattern.compile("[a-z]+|[0-9]+|[^a-z0-9]", Pattern.DOTALL).matcher(all);
            while (m.find()) if (!m.group().equals(" ")) words.add(new Word(m.start(), m.group()));
        }

        boolean more() {
            return next < words.size();
        }

        Word take() throws Fault {
            if (!more()) throw new Fault(end);
            return words.get(next++);
        }

        Word need(String... texts) throws Fault {
            Word w = take();
            if (!Arrays.asList(texts).contains(w.text)) throw new Fault(w.place);
            return w;
        }

        int number(int least, int most) throws Fault {
            Word w = take();
            if (!w.text.matches("[0-9]{1,2}") || !in(Integer.parseInt(w.text), least, most)) throw new Fault(w.place);
            return Integer.parseInt(w.text);
        }
    }

    int book() {
        Text t = new Text(tape.toString());
        tape = new StringBuilder();
        Model m = new Model();
        try {
            while (t.more()) m.tell(t);
        } catch (Fault f) {
            return -100 - f.place;
        }
        village = m.village;
        mark = m.mark;
        n = m.n;
        held = m.held;
        rows.clear();
        return many(0);
    }

    private void tell(Text t) throws Fault {
        List<String> kinds = List.of("rule", "line", "back", "table", "marked", "turned");
        Word w = t.need("villages", "year", "lost", "rule", "line", "back", "table", "marked", "turned");
        if (w.text.equals("villages")) {
            n = t.number(2, 10);
        } else if (kinds.contains(w.text)) {
            if (held.size() == 6) throw new Fault(w.place);
            int a = t.number(0, 4);
            int b = t.number(0, 4);
            held.add(new Rule(kinds.indexOf(w.text), a, b, t.number(1, 4)));
        } else {
            int y = t.number(0, 23);
            village[y] = null;
            mark[y] = 0;
            if (w.text.equals("year")) {
                t.need("at");
                village[y] = t.number(0, 9);
            }
            Word more = t.need("mark", ";");
            if (more.text.equals(";")) return;
            mark[y] = t.number(0, 9);
        }
        t.need(";");
    }

    int year(int y, int v) {
        if (!in(y, 0, 23) || !in(v, -1, 9)) return BAD;
        int was = yearOf(y, 0);
        village[y] = v == -1 ? null : Integer.valueOf(v);
        return was;
    }

    int mark(int y, int v) {
        if (!in(y, 0, 23) || !in(v, 0, 9)) return BAD;
        int was = mark[y];
        mark[y] = v;
        return was;
    }

    int yearOf(int y, int what) {
        if (!in(y, 0, 23) || !in(what, 0, 1)) return BAD;
        return what == 1 ? mark[y] : village[y] == null ? -9 : village[y];
    }

    int villages(int many) {
        if (!in(many, 2, 10)) return BAD;
        int was = n;
        n = many;
        return was;
    }

    // ---- rules

    private boolean no(int rule) {
        return !in(rule, 0, held.size() - 1);
    }

    int hold(int kind, int a, int b, int k) {
        if (!ALL.contains(new Rule(kind, a, b, k))) return BAD;
        if (held.size() == 6) return FULL;
        held.add(new Rule(kind, a, b, k));
        return held.size() - 1;
    }

    private int of(Rule r, int what) {
        return new int[] {r.kind, r.a, r.b, r.k, r.words(), misses(r)}[what];
    }

    int ruleOf(int rule, int what) {
        return no(rule) || !in(what, 0, 5) ? BAD : of(held.get(rule), what);
    }

    int drop(int rule) {
        if (no(rule)) return BAD;
        held.remove(rule);
        return held.size();
    }

    private static Integer at(Integer[] stands, int y) {
        return in(y, 0, stands.length - 1) ? stands[y] : null;
    }

    // null: it says nothing
    private Integer say(Rule r, int y, Integer[] stands) {
        Integer v = null;
        Integer stood = at(stands, y - r.k);
        if (r.kind == 0) v = r.b;
        if (r.kind == 1 || r.kind == 4) v = r.a * y + r.b;
        if (r.kind == 4 && y < 24) v += mark[y];
        if ((r.kind == 2 || r.kind == 5) && stood != null) v = r.a * stood + r.b;
        if (r.kind == 3) for (int b = y % r.k; b < y; b += r.k) if (at(stands, b) != null) v = at(stands, b);
        if (r.kind == 5) v = v == null || at(stands, y - 1) == null ? null : Integer.valueOf(v + at(stands, y - 1));
        return v == null ? null : Integer.valueOf(v % n);
    }

    private boolean right(Rule r, int y) {
        return village[y].equals(say(r, y, village));
    }

    private List<Integer> told() {
        List<Integer> told = new ArrayList<>();
        for (int y = 0; y < 24; y++) if (village[y] != null) told.add(y);
        return told;
    }

    private int misses(Rule r) {
        return (int) told().stream().filter(y -> !right(r, y)).count();
    }

    private static int or9(Integer v) {
        return v == null ? -9 : v;
    }

    int says(int rule, int y) {
        return no(rule) || !in(y, 0, 99) ? BAD : or9(say(held.get(rule), y, village));
    }

    int run(int rule) {
        if (no(rule)) return BAD;
        int most = 0;
        for (int many = 1; many <= 24; many++) if (firstRun(held.get(rule), many) >= 0) most = many;
        return most;
    }

    private int firstRun(Rule r, int many) {
        List<Integer> told = told();
        for (int i = many - 1; i < told.size(); i++)
            if (told.subList(i - many + 1, i + 1).stream().allMatch(y -> right(r, y))) return told.get(i);
        return NONE;
    }

    int believed(int rule, int many) {
        return no(rule) || !in(many, 1, 9) ? BAD : firstRun(held.get(rule), many);
    }

    private int last() {
        return told().isEmpty() ? 0 : told().get(told().size() - 1) + 1;
    }

    private Integer[] ahead(Rule r) {
        Integer[] stands = Arrays.copyOf(village, 100);
        for (int y = last(); y < 100; y++) stands[y] = say(r, y, stands);
        return stands;
    }

    int on(int rule, int y) {
        return no(rule) || !in(y, last(), 99) ? BAD : or9(ahead(held.get(rule))[y]);
    }

    int here(int rule, int v, int from) {
        if (no(rule) || !in(v, 0, 9) || !in(from, 0, 99)) return BAD;
        Integer[] stands = ahead(held.get(rule));
        for (int y = from; y < 100; y++) if (y >= last() && stands[y] != null && stands[y] == v) return y;
        return NONE;
    }

    int never(int rule) {
        if (no(rule)) return BAD;
        int set = 0;
        for (int v = 0; v < n; v++) if (here(rule, v, 0) == NONE) set |= 1 << v;
        return set;
    }

    // ---- all rules

    private List<Rule> fitting(int m) {
        return ALL.stream().filter(r -> misses(r) <= m).toList();
    }

    int fits(int m) {
        return in(m, 0, 9) ? fitting(m).size() : BAD;
    }

    private Rule plain(int m) {
        Rule best = null;
        for (Rule r : fitting(m)) if (best == null || r.words() < best.words()) best = r;
        return best;
    }

    int plainest(int m, int what) {
        if (!in(m, 0, 9) || !in(what, 0, 5)) return BAD;
        Rule r = plain(m);
        return r == null ? NONE : of(r, what);
    }

    private boolean noWhen(int y, int m) {
        return !in(y, 0, 99) || !in(m, 0, 9);
    }

    private TreeMap<Integer, Integer> shares(int y, int m) {
        TreeMap<Integer, Integer> shares = new TreeMap<>();
        for (Rule r : fitting(m)) {
            Integer v = say(r, y, village);
            if (v != null) shares.merge(v, r.share(), Integer::sum);
        }
        return shares;
    }

    private static int sum(TreeMap<Integer, Integer> shares) {
        return shares.values().stream().mapToInt(i -> i).sum();
    }

    int odds(int y, int v, int m, int part) {
        if (noWhen(y, m) || !in(v, 0, 9) || !in(part, 0, 1)) return BAD;
        TreeMap<Integer, Integer> shares = shares(y, m);
        if (shares.isEmpty()) return NONE;
        BigInteger above = BigInteger.valueOf(shares.getOrDefault(v, 0));
        BigInteger below = BigInteger.valueOf(sum(shares));
        return (part == 0 ? above : below).divide(above.gcd(below)).intValue();
    }

    int bet(int y, int m) {
        if (noWhen(y, m)) return BAD;
        TreeMap<Integer, Integer> shares = shares(y, m);
        int best = NONE;
        for (int v : shares.keySet()) if (best < 0 || shares.get(v) > shares.get(best)) best = v;
        return best;
    }

    int hard(int y, int m) {
        if (noWhen(y, m)) return BAD;
        TreeMap<Integer, Integer> shares = shares(y, m);
        if (shares.isEmpty()) return NONE;
        int best = 0;
        for (int v = n - 1; v >= 0; v--) if (shares.getOrDefault(v, 0) <= shares.getOrDefault(best, 0)) best = v;
        return best;
    }

    int sure(int y, int m) {
        if (noWhen(y, m)) return BAD;
        TreeMap<Integer, Integer> shares = shares(y, m);
        return shares.size() == 1 ? shares.firstKey() : NONE;
    }

    int leave(int m) {
        if (!in(m, 0, 9)) return BAD;
        Rule now = plain(m);
        int fewest = now == null ? 99 : now.words();
        int best = NONE;
        for (int y : told()) {
            Integer was = village[y];
            village[y] = null;
            Rule then = plain(m);
            village[y] = was;
            if (then != null && then.words() < fewest) {
                fewest = then.words();
                best = y;
            }
        }
        return best;
    }

    private int steps(int from, int to) {
        int right = 0;
        while ((from + right) % n != to) right++;
        int left = 0;
        while ((to + left) % n != from) left++;
        return Math.min(left, right);
    }

    int camp(int y, int m) {
        if (noWhen(y, m)) return BAD;
        TreeMap<Integer, Integer> shares = shares(y, m);
        if (shares.isEmpty()) return NONE;
        int best = -1;
        int least = Integer.MAX_VALUE;
        for (int v = 0; v < n; v++) {
            int far = 0;
            for (int to : shares.keySet()) far += shares.get(to) * steps(v, to);
            if (far < least) {
                least = far;
                best = v;
            }
        }
        return best;
    }

    int seed(int v) {
        int was = z;
        z = v;
        return was;
    }

    int draw(int y, int m) {
        if (noWhen(y, m)) return BAD;
        List<Integer> tickets = new ArrayList<>();
        for (Rule r : fitting(m))
            if (say(r, y, village) != null)
                for (int i = 0; i < r.share(); i++) tickets.add(say(r, y, village));
        if (tickets.isEmpty()) return NONE;
        z = z * 1103515245 + 12345;
        return tickets.get((z >>> 16) % tickets.size());
    }

    // ---- rows

    private List<int[]> rowsOf(Rule r) {
        return told().stream().map(y -> new int[] {y, or9(say(r, y, village)), right(r, y) ? 1 : 0}).toList();
    }

    int prove(int rule) {
        if (no(rule)) return BAD;
        rows.clear();
        rows.addAll(rowsOf(held.get(rule)));
        return rows.size();
    }

    int row(int i, int what) {
        return in(i, 0, rows.size() - 1) && in(what, 0, 2) ? rows.get(i)[what] : -99;
    }

    int alterRow(int i, int what, int v) {
        int was = row(i, what);
        if (in(i, 0, rows.size() - 1) && in(what, 0, 2)) rows.get(i)[what] = v;
        return was;
    }

    int judge(int rule) {
        if (no(rule)) return BAD;
        List<int[]> due = rowsOf(held.get(rule));
        for (int i = 0; i < rows.size(); i++)
            if (i >= due.size() || !Arrays.equals(rows.get(i), due.get(i))) return i + 1;
        return rows.size() < due.size() ? 222 : 0;
    }

    int years(int sheet, int i, int y, int many) {
        if (!in(sheet, 0, 3) || !in(y, 0, 23) || !in(many, 0, 24) || y + many > 24) return BAD;
        if (sheets[sheet] == null) return -11;
        if (!(sheets[sheet] instanceof byte[] bytes)) return -13;
        if (i < 0 || (long) i + many > bytes.length) return -12;
        int toldNow = 0;
        for (int j = 0; j < many; j++) {
            int v = bytes[i + j];
            village[y + j] = in(v, 0, 9) ? Integer.valueOf(v) : null;
            if (in(v, 0, 9)) toldNow++;
        }
        return toldNow;
    }

    // ---- the host

    private static int sort(Object row) {
        return row instanceof byte[] ? 0 : row instanceof short[] ? 1 : row instanceof int[] ? 2 : 3;
    }

    int sheet(int sheet, int sort, int size) {
        if (!in(sheet, 0, 3) || !in(sort, -1, 3) || sort >= 0 && size > 40) return BAD;
        if (sort >= 0 && size < 0) return -14;
        sheets[sheet] = switch (sort) {
            case 0 -> new byte[size];
            case 1 -> new short[size];
            case 2 -> new int[size];
            case 3 -> new long[size];
            default -> null;
        };
        return 1;
    }

    int put(int sheet, int i, int v) {
        if (!in(sheet, 0, 3)) return BAD;
        if (sheets[sheet] == null) return -11;
        if (!in(i, 0, java.lang.reflect.Array.getLength(sheets[sheet]) - 1)) return -12;
        switch (sort(sheets[sheet])) {
            case 0 -> ((byte[]) sheets[sheet])[i] = (byte) v;
            case 1 -> ((short[]) sheets[sheet])[i] = (short) v;
            case 2 -> ((int[]) sheets[sheet])[i] = v;
            default -> ((long[]) sheets[sheet])[i] = v;
        }
        return 1;
    }

    int item(int sheet, int sort, int i) {
        if (!in(sheet, 0, 3) || !in(sort, 0, 3)) return BAD;
        if (sheets[sheet] == null) return -11;
        if (sort(sheets[sheet]) != sort) return -13;
        if (!in(i, 0, java.lang.reflect.Array.getLength(sheets[sheet]) - 1)) return -12;
        return (int) java.lang.reflect.Array.getLong(sheets[sheet], i);
    }

    int shelf(int shelf, int what, int thing) {
        if (!in(shelf, 0, 3) || !in(what, 0, 2)) return BAD;
        if (what == 0 && no(thing) || what == 1 && !in(thing, 0, 3)) return BAD;
        shelves[shelf] = what == 0 ? Integer.valueOf(thing) : what == 1 ? sheets[thing] : null;
        return 1;
    }

    private Object on(int shelf) {
        return shelves[shelf] instanceof Integer i && no(i) ? null : shelves[shelf];
    }

    int taken(int shelf, int as) {
        if (!in(shelf, 0, 3) || !in(as, 0, 5) && !in(as, 10, 13)) return BAD;
        Object held = on(shelf);
        if (held == null) return -11;
        if (held instanceof Integer i) {
            Class<?>[] kinds = {R.class, Line.class, Back.class, Table.class, Marked.class, Turned.class};
            return as < 6 && kinds[as].isInstance(thing(i)) ? i : -13;
        }
        return as - 10 == sort(held) ? java.lang.reflect.Array.getLength(held) : -13;
    }

    private R thing(int number) {
        Rule r = held.get(number);
        R thing = switch (r.kind) {
            case 0 -> new R();
            case 1 -> new Line();
            case 2 -> new Back();
            case 3 -> new Table();
            case 4 -> new Marked();
            default -> new Turned();
        };
        thing.n = number;
        thing.a = r.a;
        return thing;
    }

    int act(int shelf, int act, int x) {
        ran.clear();
        if (!in(shelf, 0, 3) || !in(act, 0, 3) || !(on(shelf) instanceof Integer i)) return 0;
        R thing = thing(i);
        try {
            return switch (act) {
                case 0 -> thing.calls(x);
                case 1 -> thing.holds(x);
                case 2 -> thing.shares(x);
                default -> thing.tells(x);
            };
        } catch (ArithmeticException e) {
            return -15;
        }
    }

    private void runs(int body) {
        if (ran.size() < 30) ran.add(body);
    }

    private class R {
        int n;
        int a;

        int calls(int x) { runs(10); return x + n; }

        int holds(int x) { runs(11); return calls(x) * 2; }

        int shares(int x) { runs(12); return x / (a - n); }

        int tells(int x) { runs(13); return holds(x) ^ a; }
    }

    private class Line extends R {
        @Override int holds(int x) { runs(20); return super.holds(x) - a; }
    }

    private final class Table extends R {
        @Override int calls(int x) { runs(30); return super.calls(x) * 3; }

        @Override int tells(int x) { runs(31); return super.tells(x) + shares(n); }
    }

    private class Back extends Line {
        @Override int calls(int x) { runs(40); return 0 - super.calls(x); }

        @Override int holds(int x) { runs(41); return super.holds(x) + calls(n); }
    }

    private final class Marked extends Line {
        @Override int shares(int x) { runs(50); return super.shares(x + 2) ^ 1; }

        @Override int calls(int x) { runs(51); return super.calls(x) - n; }
    }

    private final class Turned extends Back {
        @Override int tells(int x) { runs(60); return super.tells(x) * 2; }

        @Override int shares(int x) { runs(61); return super.shares(x) + calls(a); }
    }

    int trace(int i) {
        return in(i, 0, ran.size() - 1) ? ran.get(i) : NONE;
    }

    int many(int what) {
        int[] many = {told().size(), held.size(), n, last(), rows.size(), tape.length(), ran.size()};
        return in(what, 0, 6) ? many[what] : BAD;
    }

    // ---- kept

    int keep() {
        kept = new Kept(village.clone(), mark.clone(), n, new ArrayList<>(held), z);
        return 1;
    }

    int again() {
        if (kept == null) return NONE;
        village = kept.village.clone();
        mark = kept.mark.clone();
        n = kept.n;
        held = new ArrayList<>(kept.held);
        z = kept.z;
        return told().size();
    }
}
