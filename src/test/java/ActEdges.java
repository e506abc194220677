import java.util.ArrayList;
import java.util.List;
import java.util.Set;
import java.util.TreeSet;

// The edges of ACTS and BODIES, as "Terms" names them: for every KIND, A and number what an ACT answers
// with numbers that wrap, and which bodies it runs.
final class ActEdges {
    private static final int RULE = 0, LINE = 1, BACK = 2, TABLE = 3, MARKED = 4, TURNED = 5;
    private static final int CALLS = 0, HOLDS = 1, SHARES = 2, TELLS = 3;
    private static final int[] NUMBERS = {Integer.MIN_VALUE, Integer.MIN_VALUE + 1, -0x40000000, -3, -1, 0, 1, 4, 0x3fffffff, Integer.MAX_VALUE - 1,
        Integer.MAX_VALUE};

    private ActEdges() {
    }

    // What a body answers for x, n and a; with n and a the same it isn't asked if it parts.
    private interface Answer {
        int of(int x, int n, int a);
    }

    static void all() {
        acts();
        things();
        rules();
        lines();
        tables();
        backs();
        markeds();
        turneds();
        traceOfBodies();
        partedBy0();
    }

    // Asks an ACT of a KIND as each number that a HELD RULE can have, with each A.
    private static void ask(int kind, int act, Answer due, int... bodies) {
        for (int n = 0; n < 6; n++) {
            for (int a = 0; a < 5; a++) {
                FairNext x = new FairNext();
                for (int i = 0; i < n; i++) {
                    x.hold(RULE, 0, 0, 1);
                }
                Due.is("hold", x.hold(kind, a, 3, 2), n);
                Due.is("shelf", x.shelf(1, 0, n), 1);
                for (int number : NUMBERS) {
                    askOne(x, act, number, n, a, due, bodies);
                }
            }
        }
    }

    private static void askOne(FairNext x, int act, int number, int n, int a, Answer due, int... bodies) {
        List<Integer> ran = new ArrayList<>();
        for (int body : bodies) {
            ran.add(body);
        }
        boolean parts = ran.contains(12) && a == n;
        String call = "act " + act + " of " + number + " with n " + n + " and a " + a;
        Due.is(call, x.act(1, act, number), parts ? -15 : due.of(number, n, a));
        if (parts) {
            ran = ran.subList(0, ran.indexOf(12) + 1);
        }
        Due.is("bodies of " + call + ", due are " + ran, Edge.answers(x, "trace #", 0, x.many(6) - 1).equals(ran) ? 1 : 0, 1);
    }

    private static void acts() {
        Sentence.of(0, "ACTS of things, with a number x (ints that wrap): 0 calls, 1 holds, 2 shares, 3 tells.");
        ask(RULE, 0, (x, n, a) -> x + n, 10);
        ask(RULE, 1, (x, n, a) -> (x + n) * 2, 11, 10);
        ask(RULE, 2, (x, n, a) -> x / (a - n), 12);
        ask(RULE, 3, (x, n, a) -> (x + n) * 2 ^ a, 13, 11, 10);
        Edge.ask(Edge.inUse(), "act 0 -1 7 = 0", "act 0 4 7 = 0");
    }

    private static void things() {
        Sentence.of(0, "A HELD RULE is held as a thing of its KIND; n: its number, a: its A.");
        // its number is the one it has now: with RULE 0 gone RULE 1 is 0
        FairNext x = Edge.asked("hold 0 0 0 1 = 0", "hold 2 3 0 1 = 1", "shelf 0 0 1 = 1", "shelf 1 0 0 = 1");
        Edge.ask(x, "act 0 0 5 = -6", "act 0 2 8 = 4", "act 1 0 5 = 5", "drop 0 = 1", "act 0 0 5 = 0", "act 1 0 5 = -5", "act 1 2 8 = 2");
        // B and K count nothing
        Edge.asked("hold 0 0 4 4 = 0", "shelf 0 0 0 = 1", "act 0 1 5 = 10", "act 0 3 5 = 10");
    }

    private static void rules() {
        Sentence.of(0, "BODIES, each with its number:");
        Set<Integer> ran = new TreeSet<>();
        for (int kind = 0; kind < 6; kind++) {
            for (int act = 0; act < 4; act++) {
                FairNext x = Edge.inUse();
                Edge.ask(x, "shelf 0 0 " + kind + " = 1");
                x.act(0, act, 7);
                ran.addAll(Edge.answers(x, "trace #", 0, x.many(6) - 1));
            }
        }
        Due.is("all that run: " + ran, ran.equals(Set.of(10, 11, 12, 13, 20, 30, 31, 40, 41, 50, 51, 60, 61)) ? 1 : 0, 1);
        Sentence.of(0, "rule: 10 calls: x + n.");
        ask(RULE, CALLS, (x, n, a) -> x + n, 10);
        ask(LINE, CALLS, (x, n, a) -> x + n, 10);
        Sentence.of(0, "11 holds: calls(x) * 2.");
        ask(RULE, HOLDS, (x, n, a) -> (x + n) * 2, 11, 10);
        ask(TABLE, HOLDS, (x, n, a) -> (x + n) * 3 * 2, 11, 30, 10);
        Sentence.of(0, "12 shares: x by (a - n), the rest away (-15 if these are the same; that is all that act() answers then).");
        for (int kind : new int[] {RULE, LINE, BACK, TABLE}) {
            ask(kind, SHARES, (x, n, a) -> x / (a - n), 12);
        }
        Sentence.of(0, "13 tells: holds(x) ^ a.");
        ask(RULE, TELLS, (x, n, a) -> (x + n) * 2 ^ a, 13, 11, 10);
        ask(LINE, TELLS, (x, n, a) -> (x + n) * 2 - a ^ a, 13, 20, 11, 10);
        ask(BACK, TELLS, (x, n, a) -> -(x + n) * 2 - a - (n + n) ^ a, 13, 41, 20, 11, 40, 10, 40, 10);
        ask(MARKED, TELLS, (x, n, a) -> x * 2 - a ^ a, 13, 20, 11, 51, 10);
    }

    private static void lines() {
        Sentence.of(0, "line: 20 holds: super.holds(x) - a.");
        ask(LINE, HOLDS, (x, n, a) -> (x + n) * 2 - a, 20, 11, 10);
        ask(MARKED, HOLDS, (x, n, a) -> x * 2 - a, 20, 11, 51, 10);
    }

    private static void tables() {
        Sentence.of(0, "table: 30 calls: super.calls(x) * 3.");
        ask(TABLE, CALLS, (x, n, a) -> (x + n) * 3, 30, 10);
        Sentence.of(0, "31 tells: super.tells(x) + shares(n).");
        ask(TABLE, TELLS, (x, n, a) -> ((x + n) * 6 ^ a) + n / (a - n), 31, 13, 11, 30, 10, 12);
    }

    private static void backs() {
        Sentence.of(0, "back: 40 calls: 0 - super.calls(x).");
        ask(BACK, CALLS, (x, n, a) -> -(x + n), 40, 10);
        ask(TURNED, CALLS, (x, n, a) -> -(x + n), 40, 10);
        Sentence.of(0, "41 holds: super.holds(x) + calls(n).");
        ask(BACK, HOLDS, (x, n, a) -> -(x + n) * 2 - a - (n + n), 41, 20, 11, 40, 10, 40, 10);
        ask(TURNED, HOLDS, (x, n, a) -> -(x + n) * 2 - a - (n + n), 41, 20, 11, 40, 10, 40, 10);
    }

    private static void markeds() {
        Sentence.of(0, "marked: 50 shares: super.shares(x + 2) ^ 1.");
        ask(MARKED, SHARES, (x, n, a) -> (x + 2) / (a - n) ^ 1, 50, 12);
        Sentence.of(0, "51 calls: super.calls(x) - n.");
        ask(MARKED, CALLS, (x, n, a) -> x, 51, 10);
    }

    private static void turneds() {
        Sentence.of(0, "turned: 60 tells: super.tells(x) * 2.");
        ask(TURNED, TELLS, (x, n, a) -> (-(x + n) * 2 - a - (n + n) ^ a) * 2, 60, 13, 41, 20, 11, 40, 10, 40, 10);
        Sentence.of(0, "61 shares: super.shares(x) + calls(a).");
        ask(TURNED, SHARES, (x, n, a) -> x / (a - n) - (a + n), 61, 12, 40, 10);
    }

    private static void traceOfBodies() {
        Sentence.of(0, "THE TRACE: numbers of the bodies that ran in the latest act(), as they began (left first); the first 30 are kept.");
        Edge.ask(Edge.inUse(), "many 6 = 9", "trace 0 = 60", "trace 1 = 13", "trace 2 = 41", "trace 3 = 20", "trace 4 = 11", "trace 5 = 40", "trace 6 = 10",
            "trace 7 = 40", "trace 8 = 10", "trace 9 = -3", "act 0 0 1 = -6", "many 6 = 2", "act 0 3 7 = -68", "many 6 = 9", "act 2 0 1 = 0", "many 6 = 0");
        // no ACT runs as many as 30
        for (int kind = 0; kind < 6; kind++) {
            for (int act = 0; act < 4; act++) {
                FairNext x = Edge.inUse();
                x.shelf(0, 0, kind);
                x.act(0, act, 7);
                Due.is("at most 30 bodies", x.many(6) >= 1 && x.many(6) <= 30 ? 1 : 0, 1);
                Due.is("none beyond", x.trace(x.many(6)), -3);
            }
        }
    }

    // RULE 4 of the object in use has A 4.
    private static void partedBy0() {
        Sentence.of(0, "(-15 if these are the same; that is all that act() answers then).");
        FairNext was = Edge.inUse();
        Edge.ask(was, "shelf 2 0 4 = 1", "act 2 2 7 = -15", "trace 0 = 50", "trace 1 = 12", "trace 2 = -3", "many 6 = 2", "act 2 0 7 = 7");
        Edge.changesOf(() -> {
            FairNext x = Edge.inUse();
            Edge.ask(x, "shelf 2 0 4 = 1");
            return x;
        }, "act 2 2 7", -15, "the trace");
        // an ACT may answer as low as this too
        Edge.asked("hold 0 0 0 1 = 0", "shelf 0 0 0 = 1", "act 0 0 -15 = -15", "many 6 = 1", "act 0 2 7 = -15", "many 6 = 1", "trace 0 = 12");
    }
}
