// The edges of ROWS and of YEARS taken from a SHEET, as "Terms" and the promises 27 to 31 name them.
final class RowEdges {
    private RowEdges() {
    }

    static void all() {
        rows();
        reader();
        prove();
        row();
        alterRow();
        judge();
        years();
    }

    // All 24 YEARS are told at 1; RULE 0 says so, RULE 1 says 2, RULE 2 says what stood a YEAR ahead.
    private static FairNext full() {
        FairNext x = Edge.asked("hold 0 0 1 1 = 0", "hold 0 0 2 1 = 1", "hold 2 1 0 1 = 2");
        for (int year = 0; year < 24; year++) {
            Edge.ask(x, "year " + year + " 1 = -9");
        }
        return x;
    }

    private static void rows() {
        Sentence.of(0, "ROWS of a HELD RULE: (YEAR, what it says, 1 if it is as told, else 0) of all told YEARS, by YEARS.");
        FairNext x = full();
        Edge.ask(x, "prove 2 = 24", "many 4 = 24", "row 0 0 = 0", "row 0 1 = -9", "row 0 2 = 0");
        for (int year = 1; year < 24; year++) {
            Edge.ask(x, "row " + year + " 0 = " + year, "row " + year + " 1 = 1", "row " + year + " 2 = 1");
        }
        Edge.ask(x, "row 24 0 = -99", "prove 1 = 24", "row 23 0 = 23", "row 23 1 = 2", "row 23 2 = 0");
        // none, and with lost ones between
        Edge.asked("hold 0 0 1 1 = 0", "prove 0 = 0", "many 4 = 0", "row 0 0 = -99", "year 23 1 = -9", "year 0 3 = -9", "prove 0 = 2", "row 0 0 = 0",
            "row 0 1 = 1", "row 0 2 = 0", "row 1 0 = 23", "row 1 1 = 1", "row 1 2 = 1", "row 2 0 = -99");
    }

    private static void reader() {
        Sentence.of(0, "THE READER takes ROWS as those of a HELD RULE: right is one that is as it must be; if all are, but there are fewer: 222.");
        FairNext x = full();
        Edge.ask(x, "judge 0 = 222", "prove 0 = 24", "judge 0 = 0", "judge 1 = 1", "judge 2 = 1", "alterRow 0 1 -9 = 1", "alterRow 0 2 0 = 1", "judge 2 = 0",
            "judge 0 = 1");
        // fewer by one, the last, and by all but one; then none of a YEAR in between
        Edge.ask(full(), "year 23 -1 = 1", "prove 0 = 23", "year 23 1 = -9", "judge 0 = 222", "alterRow 22 2 0 = 1", "judge 0 = 23");
        FairNext one = Edge.asked("hold 0 0 1 1 = 0", "year 0 1 = -9", "prove 0 = 1", "year 23 1 = -9", "judge 0 = 222", "year 1 1 = -9", "judge 0 = 222");
        Edge.ask(one, "year 23 -1 = 1", "year 1 -1 = 1", "year 23 1 = -9", "prove 0 = 2", "year 22 1 = -9", "judge 0 = 2");
    }

    private static void prove() {
        Sentence.of(27, "ROWS: how many.");
        Edge.changes("prove 5", 4, "the rows");
        Edge.changes("prove 0", 4, "the rows");
        Edge.ask(full(), "prove 0 = 24");
        Edge.asked("hold 0 0 1 1 = 0", "prove 0 = 0");
        // none of the ROWS that were there stays
        Edge.ask(full(), "prove 0 = 24", "book = 0", "hold 0 0 1 1 = 0", "year 5 1 = -9", "prove 0 = 1", "many 4 = 1", "row 1 0 = -99", "year 5 -1 = 1",
            "prove 0 = 0", "row 0 0 = -99");
        Sentence.of(27, "BAD.");
        Edge.refused(-1, "prove -1", "prove 6", "prove MIN", "prove MAX");
        Edge.asked("prove 0 = -1", "year 0 1 = -9", "prove 0 = -1", "many 4 = 0");
    }

    private static void row() {
        Sentence.of(28, "Of ROW i: what = 0 YEAR, 1 what it says, 2 whether it is as told.");
        Edge.ask(Edge.inUse(), "row 0 0 = 0", "row 0 1 = 3", "row 0 2 = 1", "row 2 0 = 3", "row 2 1 = -77", "row 2 2 = 0", "row 3 0 = 8", "row 3 1 = 5",
            "row 3 2 = 0");
        Edge.reads("row 0 0", "row 3 2");
        Sentence.of(28, "-99: there is none such, another what.");
        Edge.refused(-99, "row -1 0", "row 4 0", "row 0 -1", "row 0 3", "row MIN 0", "row MAX 0", "row 0 MIN", "row 0 MAX", "row 3 3", "row -1 3", "row 1 -3");
        Edge.ask(full(), "row 0 0 = -99", "prove 0 = 24", "row 23 2 = 1", "row 24 0 = -99");
    }

    private static void alterRow() {
        Sentence.of(29, "It becomes v: what it was.");
        Edge.changes("alterRow 0 0 1", 0, "the rows");
        Edge.changes("alterRow 3 2 MIN", 0, "the rows");
        Edge.changes("alterRow 3 1 MAX", 5, "the rows");
        Edge.changes("alterRow 3 1 5", 5);
        Edge.ask(full(), "prove 0 = 24", "alterRow 23 2 MIN = 1", "alterRow 23 2 MAX = MIN", "alterRow 23 2 -99 = MAX", "row 23 2 = -99", "row 23 1 = 1",
            "row 22 2 = 1", "alterRow 0 0 7 = 0", "row 0 0 = 7", "row 0 1 = 1", "row 1 0 = 1");
        Sentence.of(29, "-99 likewise.");
        Edge.refused(-99, "alterRow -1 0 1", "alterRow 4 0 1", "alterRow 0 -1 1", "alterRow 0 3 1", "alterRow MIN 0 1", "alterRow MAX 0 1",
            "alterRow 0 MIN 1", "alterRow 0 MAX 1", "alterRow 3 3 1", "alterRow 1 -3 1");
        Edge.asked("alterRow 0 0 1 = -99", "many 4 = 0");
    }

    private static void judge() {
        Sentence.of(30, "THE READER takes ROWS: 0 all is right; else the first ROW that isn't, and 1 more; 222.");
        FairNext x = full();
        Edge.ask(x, "prove 0 = 24", "judge 0 = 0");
        int[] right = {0, 1, 1};
        for (int i : new int[] {0, 1, 22, 23}) {
            for (int what = 0; what < 3; what++) {
                int was = what == 0 ? i : right[what];
                Edge.ask(x, "alterRow " + i + " " + what + " -5 = " + was, "judge 0 = " + (i + 1), "alterRow " + i + " " + what + " " + was + " = -5", "judge 0 = 0");
            }
        }
        Edge.ask(x, "alterRow 23 0 0 = 23", "alterRow 7 0 0 = 7", "judge 0 = 8");
        // ROWS beyond those that must be aren't right
        Edge.ask(full(), "prove 0 = 24", "year 23 -1 = 1", "judge 0 = 24", "year 22 -1 = 1", "judge 0 = 23", "year 0 -1 = 1", "judge 0 = 1");
        Edge.asked("hold 0 0 1 1 = 0", "year 0 1 = -9", "prove 0 = 1", "year 0 -1 = 1", "judge 0 = 1", "book = 0", "hold 0 0 1 1 = 0", "judge 0 = 0");
        Edge.asked("hold 0 0 1 1 = 0", "judge 0 = 0", "year 0 1 = -9", "judge 0 = 222");
        Edge.ask(Edge.inUse(), "judge 1 = 3", "judge 0 = 2", "alterRow 2 1 2 = -77", "judge 1 = 0", "villages 2 = 7", "judge 1 = 1");
        Edge.reads("judge 1", "judge 0");
        Sentence.of(30, "BAD.");
        Edge.refused(-1, "judge -1", "judge 6", "judge MIN", "judge MAX");
    }

    private static FairNext bytes() {
        return Edge.asked("sheet 0 0 6 = 1", "put 0 0 0 = 1", "put 0 1 9 = 1", "put 0 2 10 = 1", "put 0 3 -1 = 1", "put 0 4 127 = 1", "put 0 5 -128 = 1");
    }

    private static void years() {
        Sentence.of(31, "n (0 to 24) numbers of a SHEET taken for bytes, from i on, are VILLAGES of YEARS from one on"
            + " (those that aren't 0 to 9: lost): how many are told of these.");
        FairNext x = bytes();
        Edge.ask(x, "year 1 4 = -9", "year 2 4 = -9", "year 7 4 = -9", "year 8 4 = -9", "mark 3 5 = 0", "years 0 0 2 6 = 2", "yearOf 1 0 = 4", "yearOf 2 0 = 0",
            "yearOf 3 0 = 9", "yearOf 3 1 = 5", "yearOf 4 0 = -9", "yearOf 5 0 = -9", "yearOf 6 0 = -9", "yearOf 7 0 = -9", "yearOf 8 0 = 4", "many 0 = 4");
        Edge.ask(x, "years 0 1 23 1 = 1", "yearOf 23 0 = 9", "years 0 5 23 1 = 0", "yearOf 23 0 = -9", "years 0 0 0 0 = 0", "years 0 6 23 0 = 0", "many 0 = 4");
        Edge.asked("sheet 3 0 40 = 1", "put 3 39 3 = 1", "years 3 16 0 24 = 24", "many 0 = 24", "yearOf 22 0 = 0", "yearOf 23 0 = 3", "years 3 0 0 24 = 24",
            "yearOf 23 0 = 0", "years 3 40 0 0 = 0");
        Edge.asked("sheet 0 0 0 = 1", "years 0 0 0 0 = 0", "years 0 0 0 1 = -12");
        Edge.changes("years 0 0 1 3", 1, "the book");
        Edge.changes("years 0 3 1 0", 0);
        Sentence.of(31, "BAD: no such SHEET, YEAR, n, or n goes beyond YEAR 23; -11; -13; -12.");
        Edge.refused(-1, "years -1 0 0 1", "years 4 0 0 1", "years MIN 0 0 1", "years MAX 0 0 1", "years 0 0 -1 1", "years 0 0 24 1", "years 0 0 24 0",
            "years 0 0 MIN 1", "years 0 0 MAX 1", "years 0 0 0 -1", "years 0 0 0 25", "years 0 0 0 MIN", "years 0 0 0 MAX", "years 0 0 23 2",
            "years 0 0 22 3", "years 0 0 1 24", "years 0 0 23 MAX");
        Edge.refused(-11, "years 2 0 0 1", "years 2 0 0 0");
        Edge.refused(-13, "years 1 0 0 1", "years 3 0 0 0");
        Edge.refusedOf(() -> Edge.asked("sheet 0 2 4 = 1"), -13, "years 0 0 0 1");
        Edge.refused(-12, "years 0 -1 0 1", "years 0 -1 0 0", "years 0 1 0 3", "years 0 3 0 1", "years 0 4 0 0", "years 0 0 0 4", "years 0 0 0 24",
            "years 0 MIN 0 1", "years 0 MAX 0 1", "years 0 MAX 0 24", "years 0 MIN 0 24");
    }
}
