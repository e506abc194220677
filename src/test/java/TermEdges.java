// The edges that "Terms" names: refusals, sets, quotients and fractions; THE BOOK; a RULE, what it SAYS.
final class TermEdges {
    private TermEdges() {
    }

    static void all() {
        answersBelow0();
        refusedChangesNothing();
        firstNamed();
        refusals();
        refusalsOfTheHost();
        sets();
        quotients();
        fractions();
        years();
        villagesOfYears();
        marks();
        villages();
        last();
        kinds();
        numbersOfARule();
        held();
        says();
        lostOnes();
        rule();
        line();
        back();
        marked();
        table();
        turned();
        rest();
        saysNothing();
        words();
        misses();
    }

    private static void answersBelow0() {
        Sentence.of(0, "Answers below 0, where not told otherwise, are refusals;");
        // told otherwise: what a YEAR, z or a cell was, and what an item is; these are no refusals
        Edge.ask(Edge.inUse(), "year 2 4 = -9", "yearOf 2 0 = 4", "seed -3 = 77", "seed -1 = -3", "seed 6 = -1", "seed 0 = 6",
            "alterRow 2 1 -99 = -77", "alterRow 2 1 -1 = -99", "alterRow 2 1 8 = -1", "row 2 1 = 8", "item 3 3 0 = -12");
    }

    private static void refusedChangesNothing() {
        Sentence.of(0, "such a call changes nothing (but that THE TAPE is used up by book());");
        // the refusals of each call stand with its promise; this is book()'s
        Edge.changesOf(() -> {
            FairNext x = Edge.inUse();
            Edge.ask(x, "feed 33 1 = 200");
            return x;
        }, "book", -299, "the tape");
        Edge.changesOf(() -> {
            FairNext x = Edge.asked("feed 33 1 = 1", "keep = 1");
            return x;
        }, "book", -100, "the tape");
    }

    private static void firstNamed() {
        Sentence.of(0, "of several the first named:");
        FairNext full = Edge.inUse();
        Edge.ask(full, "feed 0 1 = 200", "feed 0 9 = -1", "feed 0 0 = -1", "hold 6 0 0 1 = -1", "hold 0 5 0 1 = -1", "hold 0 0 5 1 = -1",
            "hold 0 0 0 5 = -1");
        // by 0 none FITS, no RULE is BELIEVED by 9 and none comes to VILLAGE 9: NONE, were the numbers as told
        Edge.refused(-1, "believed 6 9", "believed -1 9", "here 6 9 0", "here 0 9 100", "plainest 0 6", "plainest 0 -1",
            "odds 100 0 0 0", "odds 0 10 0 0", "odds 0 0 0 2", "odds -1 0 0 0", "odds 0 -1 0 0", "odds 0 0 0 -1",
            "bet 100 0", "bet -1 0", "hard 100 0", "hard -1 0", "sure 100 0", "sure -1 0", "camp 100 0", "camp -1 0",
            "draw 100 0", "draw -1 0");
        Edge.refused(-1, "years 2 -1 24 1", "years 2 -1 0 25", "years 2 -1 23 2", "years 1 -1 24 1", "years 1 -1 0 -1", "years 0 -1 24 1",
            "years 0 3 1 24", "sheet 4 0 -1", "sheet -1 0 -1", "sheet 0 4 -1", "sheet 0 -2 -1", "put 4 -1 0", "put -1 -1 0",
            "item 4 0 -1", "item 2 4 0", "item 2 -1 0", "item 0 4 -1", "item 0 -1 3", "taken 2 6", "taken 2 14", "taken 2 -1", "taken 1 9");
        Edge.refused(-11, "years 2 -1 0 1", "put 2 -1 0", "item 2 0 -1", "item 2 2 4");
        Edge.refused(-13, "years 1 -1 0 1", "years 1 3 0 0", "item 1 0 -1", "item 1 0 3");
    }

    private static void refusals() {
        Sentence.of(0, "BAD (-1) there is no such thing, or a number is not as told; FULL (-2); NONE (-3); STATE (-4);");
        Due.is("BAD", FairNext.BAD, -1);
        Due.is("FULL", FairNext.FULL, -2);
        Due.is("NONE", FairNext.NONE, -3);
        Due.is("STATE", FairNext.STATE, -4);
        Edge.refused(-1, "drop 6", "mark 0 10");
        Edge.refused(-2, "hold 0 0 0 1");
        Edge.refused(-3, "bet 0 0");
    }

    private static void refusalsOfTheHost() {
        Sentence.of(0, "and what the host refuses: -11 nothing where something is asked, -12 a place outside,"
            + " -13 a thing of another sort or kind, -14 a size below 0, -15 parted by 0.");
        Edge.refused(-11, "item 2 0 0", "taken 2 0");
        Edge.refused(-12, "item 0 0 3", "put 0 -1 0");
        Edge.refused(-13, "item 0 1 0", "taken 0 3");
        Edge.refused(-14, "sheet 0 0 -1");
        Edge.ask(Edge.asked("hold 0 0 0 1 = 0", "shelf 0 0 0 = 1"), "act 0 2 5 = -15");
    }

    private static void sets() {
        Sentence.of(0, "Sets are told by bits.");
        Edge.ask(Edge.asked("hold 0 0 0 1 = 0", "hold 0 0 3 1 = 1", "hold 2 0 0 1 = 2"),
            "never 0 = 1022", "never 1 = 1015", "never 2 = 1023", "villages 2 = 10", "never 0 = 2", "never 1 = 1", "never 2 = 3");
    }

    private static void quotients() {
        Sentence.of(0, "Quotients are cut towards 0.");
        FairNext x = Edge.asked("hold 0 2 0 1 = 0", "hold 0 0 0 1 = 1", "hold 0 0 0 1 = 2", "shelf 0 0 0 = 1", "shelf 2 0 2 = 1");
        // by 2, and by -2
        Edge.ask(x, "act 0 2 7 = 3", "act 0 2 -7 = -3", "act 0 2 1 = 0", "act 0 2 -1 = 0", "act 0 2 -2 = -1",
            "act 2 2 7 = -3", "act 2 2 -7 = 3", "act 2 2 1 = 0", "act 2 2 -1 = 0", "act 2 2 2 = -1");
    }

    private static void fractions() {
        Sentence.of(0, "A part of a fraction: 0 above the line, 1 below it, without a common divisor, below above 0 (0 is 0 by 1).");
        FairNext x = Edge.asked("year 0 3 = -9");
        // 112, 14 and none of 168 SHARES; 168 of 168
        Edge.ask(x, "odds 1 3 0 0 = 2", "odds 1 3 0 1 = 3", "odds 1 4 0 0 = 1", "odds 1 4 0 1 = 12", "odds 1 8 0 0 = 0", "odds 1 8 0 1 = 1",
            "odds 0 3 0 0 = 1", "odds 0 3 0 1 = 1", "odds 0 2 0 0 = 0", "odds 0 2 0 1 = 1");
        Edge.refused(-1, "odds 1 3 9 -1", "odds 1 3 9 2");
    }

    private static void years() {
        Sentence.of(0, "1 THE BOOK has YEARS 0 to 23;");
        Edge.asked("year 0 1 = -9", "year 23 2 = -9", "yearOf 0 0 = 1", "yearOf 23 0 = 2", "mark 0 3 = 0", "mark 23 4 = 0",
            "yearOf 0 1 = 3", "yearOf 23 1 = 4", "many 0 = 2");
        Edge.refused(-1, "year -1 1", "year 24 1", "mark -1 1", "mark 24 1", "yearOf -1 0", "yearOf 24 0", "years 0 0 -1 1", "years 0 0 24 0");
    }

    private static void villagesOfYears() {
        Sentence.of(0, "each is told (a VILLAGE, 0 to 9) or lost (at first),");
        FairNext x = new FairNext();
        for (int year = 0; year < 24; year++) {
            Edge.ask(x, "yearOf " + year + " 0 = -9");
        }
        Edge.ask(x, "year 5 0 = -9", "many 0 = 1", "year 5 9 = 0", "year 5 -1 = 9", "many 0 = 0", "yearOf 5 0 = -9");
        Edge.refused(-1, "year 0 -2", "year 0 10");
    }

    private static void marks() {
        Sentence.of(0, "and has a MARK (0 to 9; 0 at first).");
        FairNext x = new FairNext();
        for (int year = 0; year < 24; year++) {
            Edge.ask(x, "yearOf " + year + " 1 = 0");
        }
        Edge.ask(x, "mark 5 9 = 0", "yearOf 5 1 = 9", "mark 5 0 = 9", "yearOf 5 1 = 0");
        Edge.refused(-1, "mark 0 -1", "mark 0 10");
    }

    private static void villages() {
        Sentence.of(0, "VILLAGES: how many there are (2 to 10; 10 at first): N.");
        Edge.asked("many 2 = 10", "hold 0 0 3 1 = 0", "hold 1 1 0 1 = 1", "says 1 9 = 9", "says 1 10 = 0", "villages 2 = 10", "says 0 0 = 1",
            "says 1 1 = 1", "says 1 2 = 0", "many 2 = 2", "villages 10 = 2", "says 0 0 = 3");
        Edge.refused(-1, "villages 1", "villages 11");
    }

    private static void last() {
        Sentence.of(0, "LAST is the greatest YEAR that is told, and 1 more (0 without any).");
        Edge.asked("many 3 = 0", "mark 20 9 = 0", "many 3 = 0", "year 0 0 = -9", "many 3 = 1", "year 23 9 = -9", "many 3 = 24",
            "year 7 1 = -9", "many 3 = 24", "year 23 -1 = 9", "many 3 = 8", "year 7 -1 = 1", "year 0 -1 = 0", "many 3 = 0");
    }

    private static void kinds() {
        Sentence.of(0, "A RULE has a KIND: 0 rule; 1 line, 3 table (under rule), 2 back, 4 marked (under line), 5 turned (under back);");
        String[] taken = {"0 -13 -13 -13 -13 -13", "1 1 -13 -13 -13 -13", "2 2 2 -13 -13 -13", "3 -13 -13 3 -13 -13", "4 4 -13 -13 4 -13",
            "5 5 5 -13 -13 5"};
        FairNext x = Edge.inUse();
        for (int kind = 0; kind < 6; kind++) {
            Edge.ask(x, "ruleOf " + kind + " 0 = " + kind, "shelf 0 0 " + kind + " = 1");
            for (int as = 0; as < 6; as++) {
                Edge.ask(x, "taken 0 " + as + " = " + taken[kind].split(" ")[as]);
            }
        }
        Edge.refused(-1, "hold -1 0 0 1", "hold 6 0 0 1");
    }

    private static void numbersOfARule() {
        Sentence.of(0, "A (0 to 4), B (0 to 4), K (1 to 4).");
        for (int kind = 0; kind < 6; kind++) {
            String hold = "hold " + kind;
            Edge.asked(hold + " 0 0 1 = 0", "ruleOf 0 1 = 0", "ruleOf 0 2 = 0", "ruleOf 0 3 = 1",
                hold + " 4 4 4 = 1", "ruleOf 1 1 = 4", "ruleOf 1 2 = 4", "ruleOf 1 3 = 4",
                hold + " -1 0 1 = -1", hold + " 5 0 1 = -1", hold + " 0 -1 1 = -1", hold + " 0 5 1 = -1", hold + " 0 0 0 = -1",
                hold + " 0 0 5 = -1", "many 1 = 2");
        }
    }

    private static void held() {
        Sentence.of(0, "HELD are at most 6, numbered as they come.");
        Edge.asked("many 1 = 0", "hold 0 0 0 1 = 0", "hold 0 0 1 1 = 1", "hold 0 0 2 1 = 2", "hold 0 0 3 1 = 3", "hold 0 0 4 1 = 4",
            "hold 1 0 0 1 = 5", "hold 1 0 1 1 = -2", "many 1 = 6", "ruleOf 0 2 = 0", "ruleOf 4 2 = 4", "ruleOf 5 0 = 1", "ruleOf 6 0 = -1");
    }

    private static void says() {
        Sentence.of(0, "SAYS of a RULE for a YEAR y (0 to 99), by what stands in the YEARS ahead of it");
        Edge.ask(Edge.asked("hold 1 1 0 1 = 0"), "says 0 0 = 0", "says 0 99 = 9", "says 0 -1 = -1", "says 0 100 = -1");
        // YEAR 5 alone is told: it says something behind it, not in it nor ahead of it
        FairNext x = Edge.asked("year 5 4 = -9", "hold 2 1 0 1 = 0", "hold 3 0 0 1 = 1", "hold 5 1 0 1 = 2");
        Edge.ask(x, "says 0 4 = -9", "says 0 5 = -9", "says 0 6 = 4", "says 1 4 = -9", "says 1 5 = -9", "says 1 6 = 4",
            "says 2 4 = -9", "says 2 5 = -9", "says 2 6 = 8");
    }

    private static void lostOnes() {
        Sentence.of(0, "(lost ones stand for nothing; YEARS of 24 and more have MARK 0):");
        FairNext x = Edge.asked("year 2 8 = -9", "year 3 7 = -9", "hold 2 1 0 1 = 0", "hold 3 0 0 1 = 1", "hold 5 1 0 2 = 2",
            "says 0 4 = 7", "says 1 4 = 7", "says 2 4 = 5");
        Edge.ask(x, "year 3 -1 = 7", "says 0 4 = -9", "says 1 4 = 8", "says 2 4 = -9");
        Edge.asked("hold 4 0 0 1 = 0", "mark 23 9 = 0", "mark 0 8 = 0", "says 0 23 = 9", "says 0 24 = 0", "says 0 25 = 0", "says 0 99 = 0");
    }

    private static void rule() {
        Sentence.of(0, "rule: B.");
        FairNext x = Edge.asked("hold 0 4 0 4 = 0", "hold 0 0 4 1 = 1", "hold 0 4 4 4 = 2", "mark 0 9 = 0");
        Edge.ask(x, "says 0 0 = 0", "says 0 99 = 0", "says 1 0 = 4", "says 1 99 = 4", "says 2 0 = 4", "says 2 99 = 4");
    }

    private static void line() {
        Sentence.of(0, "line: A times y, and B.");
        FairNext x = Edge.asked("hold 1 4 4 1 = 0", "hold 1 4 4 4 = 1", "hold 1 0 4 1 = 2", "mark 0 9 = 0");
        Edge.ask(x, "says 0 0 = 4", "says 0 1 = 8", "says 0 2 = 2", "says 0 98 = 6", "says 0 99 = 0", "says 1 98 = 6", "says 2 99 = 4",
            "villages 7 = 10", "says 0 99 = 1");
    }

    private static void back() {
        Sentence.of(0, "back: A times what stands in y less K, and B.");
        FairNext x = Edge.asked("year 0 9 = -9", "year 23 1 = -9", "hold 2 4 4 4 = 0", "hold 2 4 4 1 = 1");
        Edge.ask(x, "says 0 0 = -9", "says 0 3 = -9", "says 0 4 = 0", "says 0 5 = -9", "says 0 26 = -9", "says 0 27 = 8", "says 0 28 = -9",
            "says 0 99 = -9", "says 1 0 = -9", "says 1 1 = 0", "says 1 2 = -9", "says 1 24 = 8", "says 1 25 = -9");
    }

    private static void marked() {
        Sentence.of(0, "marked: what a line says, and the MARK of y.");
        FairNext x = Edge.asked("hold 4 4 4 1 = 0", "hold 4 0 0 4 = 1", "mark 0 1 = 0", "mark 23 9 = 0");
        Edge.ask(x, "says 0 0 = 5", "says 0 1 = 8", "says 0 23 = 5", "says 0 24 = 0", "says 1 0 = 1", "says 1 1 = 0", "says 1 23 = 9");
    }

    private static void table() {
        Sentence.of(0, "table: what stands in y less K, or in y less twice K, and so on, the first that stands.");
        FairNext x = Edge.asked("year 0 9 = -9", "hold 3 4 4 4 = 0", "hold 3 0 0 1 = 1");
        Edge.ask(x, "says 0 0 = -9", "says 0 3 = -9", "says 0 4 = 9", "says 0 5 = -9", "says 0 8 = 9", "says 0 96 = 9", "says 0 99 = -9",
            "says 1 0 = -9", "says 1 1 = 9", "says 1 99 = 9");
        Edge.ask(x, "year 20 5 = -9", "year 23 1 = -9", "says 0 20 = 9", "says 0 24 = 5", "says 0 96 = 5", "says 0 99 = 1", "says 0 27 = 1",
            "says 0 23 = -9", "says 1 20 = 9", "says 1 21 = 5", "says 1 23 = 5", "says 1 24 = 1", "says 1 99 = 1");
    }

    private static void turned() {
        Sentence.of(0, "turned: what a back says, and what stands in y less 1.");
        FairNext x = Edge.asked("year 0 9 = -9", "year 2 8 = -9", "hold 5 1 2 3 = 0", "hold 5 1 0 1 = 1");
        Edge.ask(x, "says 0 2 = -9", "says 0 3 = 9", "says 0 4 = -9", "says 1 0 = -9", "says 1 1 = 8", "says 1 2 = -9", "says 1 3 = 6",
            "year 2 -1 = 8", "says 0 3 = -9", "year 23 4 = -9", "year 21 3 = -9", "says 0 24 = 9", "says 0 25 = -9", "says 1 24 = 8",
            "says 1 25 = -9", "says 1 99 = -9");
    }

    private static void rest() {
        Sentence.of(0, "All of these by the rest by N.");
        FairNext x = Edge.asked("year 0 9 = -9", "mark 1 9 = 0", "hold 0 0 4 1 = 0", "hold 1 3 1 1 = 1", "hold 2 1 0 1 = 2", "hold 3 0 0 1 = 3",
            "hold 4 3 1 1 = 4", "hold 5 1 0 1 = 5");
        // before the rest they say 4, 4, 9, 9, 13, 18 in YEAR 1
        int[] said = {4, 4, 9, 9, 13, 18};
        for (int n = 2; n <= 10; n++) {
            x.villages(n);
            for (int rule = 0; rule < 6; rule++) {
                Edge.ask(x, "says " + rule + " 1 = " + said[rule] % n);
            }
        }
    }

    private static void saysNothing() {
        Sentence.of(0, "It says nothing (-9) if what it needs doesn't stand (also with A 0).");
        FairNext x = Edge.asked("hold 2 0 3 1 = 0", "hold 3 0 3 1 = 1", "hold 5 0 3 2 = 2", "year 1 6 = -9");
        Edge.ask(x, "says 0 0 = -9", "says 0 1 = -9", "says 0 2 = 3", "says 0 3 = -9", "says 1 0 = -9", "says 1 1 = -9", "says 1 2 = 6",
            "says 2 2 = -9", "says 2 3 = -9", "year 0 0 = -9", "says 2 2 = 9", "says 0 1 = 3");
    }

    private static void words() {
        Sentence.of(0, "WORDS of a RULE: 1, and 1 each, if A isn't 0, B isn't 0, K isn't 1 (whatever it uses).");
        String[] due = {"0 0 1 1", "1 0 1 2", "4 0 1 2", "0 1 1 2", "0 4 1 2", "0 0 2 2", "0 0 4 2", "1 1 1 3", "4 0 4 3", "0 1 2 3", "1 1 2 4",
            "4 4 4 4"};
        for (int kind = 0; kind < 6; kind++) {
            FairNext x = new FairNext();
            for (String rule : due) {
                Edge.ask(x, "hold " + kind + " " + rule.substring(0, 5) + " = 0", "ruleOf 0 4 = " + rule.substring(6), "drop 0 = 0");
            }
        }
    }

    private static void misses() {
        Sentence.of(0, "MISSES: in how many told YEARS it says another VILLAGE than told, or nothing.");
        FairNext x = Edge.asked("hold 0 0 1 1 = 0", "hold 2 1 0 1 = 1", "ruleOf 0 5 = 0", "ruleOf 1 5 = 0");
        for (int year = 0; year < 24; year++) {
            Edge.ask(x, "year " + year + " 1 = -9");
        }
        // back says nothing in YEAR 0
        Edge.ask(x, "ruleOf 0 5 = 0", "ruleOf 1 5 = 1", "year 23 2 = 1", "ruleOf 0 5 = 1", "ruleOf 1 5 = 2", "year 0 2 = 1", "ruleOf 0 5 = 2",
            "ruleOf 1 5 = 3", "year 0 -1 = 2", "ruleOf 0 5 = 1", "ruleOf 1 5 = 2");
        FairNext all = Edge.asked("villages 5 = 10", "hold 0 0 1 1 = 0");
        for (int year = 0; year < 24; year++) {
            Edge.ask(all, "year " + year + " 9 = -9");
        }
        Edge.ask(all, "ruleOf 0 5 = 24");
    }
}
