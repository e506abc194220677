// The edges of HELD RULES, as "Terms" and the promises 8 to 16 name them.
final class RuleEdges {
    private RuleEdges() {
    }

    static void all() {
        runs();
        believes();
        goesOn();
        comesHere();
        comesNever();
        hold();
        ruleOf();
        drop();
        says();
        run();
        believed();
        on();
        here();
        never();
    }

    // All YEARS are told at VILLAGE 1, as rule 0 1 1 says; RULE 1 is never right.
    private static FairNext allRight() {
        FairNext x = Edge.asked("hold 0 0 1 1 = 0", "hold 0 0 2 1 = 1");
        for (int year = 0; year < 24; year++) {
            Edge.ask(x, "year " + year + " 1 = -9");
        }
        return x;
    }

    private static void runs() {
        Sentence.of(0, "RUN of a HELD RULE: the most told YEARS one behind the other (lost ones between count for nothing) in which it says what is told.");
        Edge.asked("hold 0 0 1 1 = 0", "run 0 = 0", "year 23 1 = -9", "run 0 = 1", "year 0 1 = -9", "run 0 = 2", "year 11 1 = -9", "run 0 = 3",
            "year 5 2 = -9", "run 0 = 2", "year 5 -1 = 2", "run 0 = 3", "year 23 3 = 1", "run 0 = 2", "year 0 3 = 1", "run 0 = 1", "year 11 3 = 1",
            "run 0 = 0");
        Edge.ask(allRight(), "run 0 = 24", "run 1 = 0", "year 0 2 = 1", "run 0 = 23", "run 1 = 1", "year 23 2 = 1", "run 0 = 22", "run 1 = 1",
            "year 10 2 = 1", "run 0 = 12", "year 10 -1 = 2", "run 0 = 21", "year 22 2 = 1", "run 1 = 2");
        // of two runs as long as each other; nothing said is not as told
        Edge.asked("hold 0 0 1 1 = 0", "hold 2 1 0 1 = 1", "year 0 1 = -9", "year 1 1 = -9", "year 2 2 = -9", "year 3 1 = -9", "year 5 1 = -9",
            "run 0 = 2", "run 1 = 1", "year 4 1 = -9", "run 0 = 3", "run 1 = 2");
    }

    private static void believes() {
        Sentence.of(0, "BELIEVED: the first YEAR behind which it has said so in n (1 to 9) told YEARS one behind the other.");
        FairNext x = allRight();
        for (int n = 1; n <= 9; n++) {
            Edge.ask(x, "believed 0 " + n + " = " + (n - 1), "believed 1 " + n + " = -3");
        }
        Edge.ask(x, "believed 0 0 = -1", "believed 0 10 = -1");
        // the run begins anew behind YEAR 3; YEARS 15 to 23 are nine
        Edge.ask(x, "year 3 2 = 1", "believed 0 3 = 2", "believed 0 4 = 7", "believed 0 9 = 12", "year 14 2 = 1", "year 5 -1 = 1", "believed 0 4 = 8",
            "believed 0 9 = 13", "year 6 -1 = 1", "believed 0 9 = 23", "year 23 -1 = 1", "believed 0 9 = -3", "believed 0 8 = 13");
        Edge.asked("hold 0 0 1 1 = 0", "believed 0 1 = -3", "year 23 1 = -9", "believed 0 1 = 23", "believed 0 2 = -3", "year 0 1 = -9", "believed 0 1 = 0",
            "believed 0 2 = 23");
    }

    private static void goesOn() {
        Sentence.of(0, "ON: a HELD RULE goes on from LAST, year by year to YEAR 99: what it says stands there then (nothing: nothing stands).");
        FairNext x = Edge.asked("hold 2 1 1 1 = 0", "on 0 0 = -9", "on 0 99 = -9", "year 0 0 = -9");
        // YEAR n stands at n then, by the rest by 10
        for (int year = 1; year < 100; year++) {
            Edge.ask(x, "on 0 " + year + " = " + year % 10);
        }
        Edge.ask(x, "says 0 2 = -9", "many 0 = 1", "yearOf 1 0 = -9", "year 0 -1 = 0", "on 0 1 = -9");
        // from LAST alone: YEAR 1 is lost and stays so, though back would say 4 there
        Edge.asked("hold 2 1 1 1 = 0", "hold 3 0 0 1 = 1", "year 0 3 = -9", "year 2 7 = -9", "on 0 3 = 8", "hold 2 1 1 2 = 2", "on 2 3 = -9", "on 2 4 = 8",
            "on 2 5 = -9", "on 2 6 = 9", "on 2 98 = 5", "on 2 99 = -9", "on 1 3 = 7", "on 1 99 = 7");
        // a MARK of a lost YEAR counts, of 24 and more none
        Edge.asked("hold 4 0 1 1 = 0", "mark 23 5 = 0", "on 0 23 = 6", "on 0 24 = 1", "on 0 99 = 1");
        // what is said is by the rest, what is told isn't
        Edge.asked("hold 5 0 0 1 = 0", "hold 3 0 0 2 = 1", "villages 4 = 10", "year 22 9 = -9", "year 23 6 = -9", "on 0 24 = 2", "on 1 24 = 1",
            "on 1 25 = 2", "on 1 98 = 1", "on 1 99 = 2");
    }

    private static void comesHere() {
        Sentence.of(0, "HERE: the first YEAR from one on (LAST at least) in which it comes to a VILLAGE.");
        FairNext x = Edge.asked("hold 1 1 0 1 = 0", "here 0 0 0 = 0", "here 0 9 0 = 9", "here 0 9 9 = 9", "here 0 9 10 = 19", "here 0 9 99 = 99",
            "here 0 8 98 = 98", "here 0 8 99 = -3");
        Edge.ask(x, "year 9 9 = -9", "here 0 9 0 = 19", "here 0 9 9 = 19", "here 0 0 0 = 10", "here 0 0 10 = 10", "here 0 0 11 = 20", "year 23 3 = -9",
            "here 0 3 0 = 33", "here 0 4 23 = 24", "here 0 4 24 = 24", "here 0 4 25 = 34");
    }

    private static void comesNever() {
        Sentence.of(0, "NEVER: VILLAGES (0 to N less 1) to which it doesn't come from LAST to YEAR 99.");
        FairNext x = Edge.asked("hold 1 1 0 1 = 0", "hold 1 2 1 1 = 1", "hold 2 1 0 1 = 2", "hold 4 0 0 1 = 3", "never 0 = 0", "never 1 = 341",
            "never 2 = 1023", "never 3 = 1022", "mark 23 9 = 0", "never 3 = 510", "year 22 5 = -9", "never 3 = 510", "year 23 5 = -9", "never 3 = 1022",
            "never 2 = 991");
        Edge.ask(x, "villages 2 = 10", "never 0 = 0", "never 1 = 1", "never 2 = 1", "villages 3 = 2", "never 1 = 0", "never 2 = 3", "never 3 = 6");
        // YEAR 99 alone brings it to VILLAGE 3
        Edge.asked("villages 9 = 10", "hold 5 4 3 4 = 0", "year 20 7 = -9", "year 21 2 = -9", "year 22 6 = -9", "year 23 3 = -9", "on 0 98 = 7",
            "on 0 99 = 3", "here 0 3 0 = 99", "never 0 = 0");
        Edge.asked("hold 1 0 3 1 = 0", "never 0 = 1015", "villages 4 = 10", "never 0 = 7");
    }

    private static void hold() {
        Sentence.of(8, "A RULE is HELD: its number.");
        Edge.asked("hold 0 0 0 1 = 0", "hold 5 4 4 4 = 1", "many 1 = 2", "ruleOf 0 0 = 0", "ruleOf 1 0 = 5", "hold 5 4 4 4 = 2");
        Edge.changesOf(() -> Edge.asked("hold 0 0 0 1 = 0", "shelf 0 0 0 = 1", "keep = 1", "prove 0 = 0", "act 0 0 1 = 1"), "hold 1 2 3 4", 1, "the rules");
        Sentence.of(8, "BAD; FULL.");
        Edge.refused(-1, "hold -1 0 0 1", "hold 6 0 0 1", "hold 0 -1 0 1", "hold 0 5 0 1", "hold 0 0 -1 1", "hold 0 0 5 1", "hold 0 0 0 0",
            "hold 0 0 0 5", "hold MIN 0 0 1", "hold MAX 0 0 1", "hold 0 MIN 0 1", "hold 0 MAX 0 1", "hold 0 0 MIN 1", "hold 0 0 MAX 1", "hold 0 0 0 MIN",
            "hold 0 0 0 MAX");
        Edge.refusedOf(() -> Edge.asked("hold 1 2 3 4 = 0"), -1, "hold -1 0 0 1", "hold 6 0 0 1", "hold 0 5 0 1", "hold 0 0 5 1", "hold 0 0 0 0",
            "hold 0 0 0 5");
        Edge.refused(-2, "hold 0 0 0 1", "hold 5 4 4 4");
        Edge.ask(Edge.inUse(), "hold 0 0 0 1 = -2", "drop 5 = 5", "hold 0 0 0 1 = 5", "hold 0 0 0 1 = -2");
    }

    private static void ruleOf() {
        Sentence.of(9, "Of a HELD RULE: what = 0 KIND, 1 A, 2 B, 3 K, 4 WORDS, 5 MISSES.");
        int[] last = {5, 4, 0, 2, 3, 4};
        int[] first = {0, 0, 3, 1, 2, 3};
        for (int what = 0; what < 6; what++) {
            Edge.ask(Edge.inUse(), "ruleOf 5 " + what + " = " + last[what], "ruleOf 0 " + what + " = " + first[what]);
        }
        Edge.ask(allRight(), "ruleOf 0 5 = 0", "ruleOf 1 5 = 24");
        Edge.reads("ruleOf 0 0", "ruleOf 0 4", "ruleOf 0 5", "ruleOf 5 5");
        Sentence.of(9, "BAD.");
        Edge.refused(-1, "ruleOf -1 0", "ruleOf 6 0", "ruleOf 0 -1", "ruleOf 0 6", "ruleOf MIN 0", "ruleOf MAX 0", "ruleOf 0 MIN", "ruleOf 0 MAX");
        Edge.asked("ruleOf 0 0 = -1", "hold 0 0 0 1 = 0", "ruleOf 0 0 = 0", "ruleOf 1 0 = -1", "drop 0 = 0", "ruleOf 0 0 = -1");
    }

    private static void drop() {
        Sentence.of(10, "A HELD RULE goes (those behind it are one less): how many are left.");
        // the RULES of the object in use are of the KINDS 0 to 5
        for (int gone = 0; gone < 6; gone++) {
            FairNext x = Edge.inUse();
            Edge.ask(x, "drop " + gone + " = 5", "many 1 = 5", "ruleOf 5 0 = -1");
            for (int rule = 0; rule < 5; rule++) {
                Edge.ask(x, "ruleOf " + rule + " 0 = " + (rule < gone ? rule : rule + 1));
            }
        }
        Edge.changes("drop 5", 5, "the rules", "the shelves");
        Edge.ask(Edge.inUse(), "drop 0 = 5", "drop 0 = 4", "drop 0 = 3", "drop 0 = 2", "drop 0 = 1", "ruleOf 0 0 = 5", "drop 0 = 0", "drop 0 = -1",
            "hold 3 0 0 1 = 0");
        Sentence.of(10, "BAD.");
        Edge.refused(-1, "drop -1", "drop 6", "drop MIN", "drop MAX");
        Edge.asked("drop 0 = -1", "many 1 = 0", "hold 0 0 0 1 = 0", "drop 1 = -1", "drop 0 = 0", "drop 0 = -1", "many 1 = 0");
    }

    private static void says() {
        Sentence.of(11, "SAYS of a HELD RULE for a YEAR (0 to 99).");
        FairNext x = Edge.inUse();
        Edge.ask(x, "says 0 0 = 3", "says 0 99 = 3", "says 1 0 = 3", "says 1 99 = 5", "says 2 0 = -9", "says 2 11 = 4", "says 2 99 = -9", "says 3 0 = -9",
            "says 3 99 = 6", "says 5 0 = -9", "says 5 99 = -9");
        Edge.reads("says 0 0", "says 5 99", "says 2 11");
        Sentence.of(11, "BAD.");
        Edge.refused(-1, "says -1 0", "says 6 0", "says 0 -1", "says 0 100", "says MIN 0", "says MAX 0", "says 0 MIN", "says 0 MAX");
    }

    private static void run() {
        Sentence.of(12, "RUN.");
        Edge.ask(Edge.inUse(), "run 0 = 1", "run 1 = 2", "run 5 = 0");
        Edge.asked("hold 0 0 0 1 = 0", "run 0 = 0");
        Edge.reads("run 0", "run 1");
        Sentence.of(12, "BAD.");
        Edge.refused(-1, "run -1", "run 6", "run MIN", "run MAX");
    }

    private static void believed() {
        Sentence.of(13, "BELIEVED.");
        Edge.ask(Edge.inUse(), "believed 1 1 = 0", "believed 1 2 = 1", "believed 0 1 = 0");
        Edge.reads("believed 1 1", "believed 1 2");
        Sentence.of(13, "BAD; NONE.");
        Edge.refused(-1, "believed -1 1", "believed 6 1", "believed 0 0", "believed 0 10", "believed MIN 1", "believed MAX 1", "believed 0 MIN",
            "believed 0 MAX");
        Edge.refused(-3, "believed 1 3", "believed 1 9", "believed 0 2", "believed 5 1");
        Edge.refusedOf(() -> Edge.asked("hold 0 0 0 1 = 0"), -3, "believed 0 1", "believed 0 9");
    }

    private static void on() {
        Sentence.of(14, "What a HELD RULE says, going ON, in a YEAR (LAST to 99; -9: nothing).");
        Edge.ask(Edge.inUse(), "on 1 9 = 0", "on 1 99 = 5", "on 2 9 = -9", "on 2 11 = 4", "on 2 14 = 6", "on 3 9 = 6", "on 3 10 = 2", "on 5 9 = -9", "on 5 99 = -9");
        Edge.asked("hold 0 0 2 1 = 0", "on 0 0 = 2", "on 0 99 = 2", "on 0 -1 = -1", "year 0 1 = -9", "on 0 0 = -1", "on 0 1 = 2", "year 23 1 = -9",
            "on 0 23 = -1", "on 0 24 = 2", "on 0 99 = 2");
        Edge.reads("on 1 9", "on 2 99", "on 5 99");
        Sentence.of(14, "BAD.");
        Edge.refused(-1, "on 0 8", "on 0 0", "on 0 -1", "on 0 100", "on -1 50", "on 6 50", "on 0 MIN", "on 0 MAX", "on MIN 50", "on MAX 50");
    }

    private static void here() {
        Sentence.of(15, "HERE from a YEAR (0 to 99) on.");
        Edge.ask(Edge.inUse(), "here 1 5 0 = 15", "here 1 5 99 = 99", "here 1 0 0 = 9", "here 1 0 9 = 9", "here 1 0 10 = 16", "here 2 4 0 = 11",
            "here 0 3 99 = 99");
        Edge.asked("hold 0 0 0 1 = 0", "here 0 0 0 = 0", "here 0 0 99 = 99", "hold 1 1 0 1 = 1", "here 1 9 0 = 9");
        Edge.reads("here 1 5 0", "here 1 5 99");
        Sentence.of(15, "BAD; NONE.");
        Edge.refused(-1, "here -1 0 0", "here 6 0 0", "here 0 -1 0", "here 0 10 0", "here 0 0 -1", "here 0 0 100", "here MIN 0 0", "here MAX 0 0",
            "here 0 MIN 0", "here 0 MAX 0", "here 0 0 MIN", "here 0 0 MAX");
        Edge.refused(-3, "here 0 0 0", "here 0 9 99", "here 1 9 0", "here 5 0 0", "here 1 0 99");
    }

    private static void never() {
        Sentence.of(16, "NEVER, a set.");
        // of 7 VILLAGES
        Edge.ask(Edge.inUse(), "never 0 = 119", "never 1 = 0", "never 3 = 59", "never 5 = 127");
        Edge.reads("never 0", "never 5");
        Sentence.of(16, "BAD.");
        Edge.refused(-1, "never -1", "never 6", "never MIN", "never MAX");
    }
}
