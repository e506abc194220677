// The edges of SHEETS, SHELVES, ACTS and of what is kept, as "Terms" and the promises 32 to 41 name them.
final class HostEdges {
    private HostEdges() {
    }

    static void all() {
        sheets();
        shelves();
        sheet();
        put();
        item();
        shelf();
        taken();
        act();
        trace();
        many();
        keep();
        again();
        calls();
    }

    private static void sheets() {
        Sentence.of(0, "SHEETS 0 to 3 are rows of bytes (sort 0), shorts (1), ints (2) or longs (3), 40 at most, or missing (at first).");
        for (int sheet = 0; sheet < 4; sheet++) {
            for (int sort = 0; sort < 4; sort++) {
                String of = sheet + " " + sort;
                Edge.asked("item " + of + " 0 = -11", "put " + sheet + " 0 1 = -11", "sheet " + of + " 41 = -1", "item " + of + " 0 = -11",
                    "sheet " + of + " 40 = 1", "put " + sheet + " 39 7 = 1", "item " + of + " 39 = 7", "put " + sheet + " 40 7 = -12",
                    "item " + of + " 40 = -12", "sheet " + sheet + " -1 0 = 1", "item " + of + " 39 = -11");
            }
        }
        // each of its own
        Edge.asked("sheet 0 2 40 = 1", "sheet 1 2 40 = 1", "sheet 2 2 40 = 1", "sheet 3 2 40 = 1", "put 0 39 1 = 1", "put 1 0 2 = 1", "put 1 39 3 = 1",
            "put 2 0 4 = 1", "put 3 39 5 = 1", "item 0 2 39 = 1", "item 1 2 0 = 2", "item 1 2 39 = 3", "item 2 2 0 = 4", "item 3 2 0 = 0", "item 3 2 39 = 5",
            "sheet 1 2 40 = 1", "item 1 2 39 = 0", "item 0 2 39 = 1", "item 2 2 0 = 4");
    }

    private static void shelves() {
        Sentence.of(0, "SHELVES 0 to 3 hold a HELD RULE (by its number; nothing, if there is no such one any more), a SHEET's row, or nothing (at first).");
        String[] calls = {"taken S 0 = -11", "taken S 10 = -11", "act S 0 5 = 0", "hold 3 0 0 1 = 0", "sheet 1 2 3 = 1", "taken S 0 = -11", "taken S 12 = -11",
            "act S 0 5 = 0", "many 6 = 0", "shelf S 0 0 = 1", "taken S 3 = 0", "act S 0 5 = 15", "shelf S 1 1 = 1", "taken S 12 = 3", "taken S 0 = -13",
            "shelf S 2 0 = 1", "taken S 12 = -11", "taken S 0 = -11"};
        for (int shelf = 0; shelf < 4; shelf++) {
            FairNext x = new FairNext();
            for (String call : calls) {
                Edge.ask(x, call.replace("S", "" + shelf));
            }
        }
        // by its number: what is held by that number then; none, if there are fewer
        Edge.ask(Edge.inUse(), "taken 0 5 = 5", "drop 0 = 5", "taken 0 0 = -11", "act 0 0 1 = 0", "many 6 = 0", "shelf 0 0 4 = 1", "taken 0 5 = 4",
            "drop 0 = 4", "taken 0 5 = -11", "hold 1 0 0 1 = 4", "taken 0 5 = -13", "taken 0 1 = 4");
        // what was there ahead of the RULE doesn't come again
        Edge.ask(Edge.inUse(), "shelf 1 0 5 = 1", "drop 5 = 5", "taken 1 10 = -11", "shelf 3 0 0 = 1", "shelf 3 1 0 = 1", "taken 3 10 = 3", "taken 3 0 = -13");
        Edge.ask(Edge.inUse(), "shelf 0 0 0 = 1", "shelf 2 0 1 = 1", "again = 2", "taken 0 4 = 0", "taken 2 0 = -11", "book = 1", "taken 0 5 = 0");
    }

    private static void sheet() {
        Sentence.of(32, "A SHEET becomes a row of n of a sort, all 0, or missing (sort -1; n counts nothing then): 1.");
        Edge.changes("sheet 0 0 3", 1, "the sheets");
        Edge.changes("sheet 0 0 0", 1, "the sheets");
        Edge.changes("sheet 3 3 40", 1, "the sheets");
        Edge.changes("sheet 2 0 1", 1, "the sheets");
        Edge.changes("sheet 2 -1 5", 1);
        for (String n : new String[] {"0", "40", "41", "-1", "MIN", "MAX"}) {
            Edge.changes("sheet 3 -1 " + n, 1, "the sheets");
        }
        for (int sort = 0; sort < 4; sort++) {
            FairNext x = Edge.asked("sheet 1 " + sort + " 40 = 1");
            for (int i = 0; i < 40; i++) {
                Edge.ask(x, "item 1 " + sort + " " + i + " = 0", "put 1 " + i + " 5 = 1");
            }
            // all 0 again, also where it was longer
            Edge.ask(x, "sheet 1 " + sort + " 0 = 1", "item 1 " + sort + " 0 = -12", "sheet 1 " + sort + " 1 = 1", "item 1 " + sort + " 0 = 0",
                "item 1 " + sort + " 1 = -12", "sheet 1 " + sort + " 40 = 1");
            for (int i = 0; i < 40; i++) {
                Edge.ask(x, "item 1 " + sort + " " + i + " = 0");
            }
        }
        Sentence.of(32, "BAD: no such SHEET, sort, n above 40; -14.");
        Edge.refused(-1, "sheet -1 0 1", "sheet 4 0 1", "sheet MIN 0 1", "sheet MAX 0 1", "sheet 0 -2 1", "sheet 0 4 1", "sheet 0 MIN 1", "sheet 0 MAX 1",
            "sheet 0 0 41", "sheet 0 3 41", "sheet 0 0 MAX", "sheet 4 -1 0", "sheet -1 -1 0");
        Edge.refused(-14, "sheet 0 0 -1", "sheet 0 3 -1", "sheet 0 0 MIN", "sheet 2 1 -1");
    }

    private static void put() {
        Sentence.of(33, "Item i becomes v, narrowed to its sort: 1.");
        Edge.changes("put 0 0 1", 1, "the sheets");
        Edge.changes("put 3 1 MIN", 1, "the sheets");
        Edge.changes("put 0 1 -6", 1);
        Edge.changes("put 0 1 250", 1);
        Edge.ask(Edge.inUse(), "put 0 2 127 = 1", "item 0 0 2 = 127", "put 0 2 128 = 1", "item 0 0 2 = -128", "put 0 2 -128 = 1", "item 0 0 2 = -128",
            "put 0 2 -129 = 1", "item 0 0 2 = 127", "put 0 2 256 = 1", "item 0 0 2 = 0", "put 0 2 MAX = 1", "item 0 0 2 = -1", "put 0 2 MIN = 1",
            "item 0 0 2 = 0");
        Edge.ask(Edge.inUse(), "put 1 1 32767 = 1", "item 1 1 1 = 32767", "put 1 1 32768 = 1", "item 1 1 1 = -32768", "put 1 1 -32768 = 1",
            "item 1 1 1 = -32768", "put 1 1 -32769 = 1", "item 1 1 1 = 32767", "put 1 1 65536 = 1", "item 1 1 1 = 0", "put 1 1 MAX = 1", "item 1 1 1 = -1",
            "put 1 1 MIN = 1", "item 1 1 1 = 0");
        for (int sort = 2; sort < 4; sort++) {
            Edge.asked("sheet 2 " + sort + " 1 = 1", "put 2 0 MAX = 1", "item 2 " + sort + " 0 = MAX", "put 2 0 MIN = 1", "item 2 " + sort + " 0 = MIN",
                "put 2 0 -1 = 1", "item 2 " + sort + " 0 = -1", "put 2 0 65536 = 1", "item 2 " + sort + " 0 = 65536");
        }
        Sentence.of(33, "BAD: no such SHEET; -11; -12.");
        Edge.refused(-1, "put -1 0 1", "put 4 0 1", "put MIN 0 1", "put MAX 0 1");
        Edge.refused(-11, "put 2 0 1", "put 2 -1 1", "put 2 MAX 1");
        Edge.refused(-12, "put 0 -1 1", "put 0 3 1", "put 1 2 1", "put 3 2 1", "put 0 MIN 1", "put 0 MAX 1");
        Edge.refusedOf(() -> Edge.asked("sheet 0 0 0 = 1", "sheet 1 0 40 = 1"), -12, "put 0 0 1", "put 0 -1 1", "put 1 40 1", "put 1 -1 1");
    }

    private static void item() {
        Sentence.of(34, "Item i, taken for a sort (0 to 3; of longs the lowest 32 bits).");
        Edge.ask(Edge.inUse(), "item 0 0 0 = 5", "item 0 0 2 = 127", "item 1 1 0 = -300", "item 1 1 1 = 0", "item 3 3 0 = -12", "item 3 3 1 = 9");
        Edge.asked("sheet 0 3 1 = 1", "put 0 0 MIN = 1", "item 0 3 0 = MIN", "put 0 0 MAX = 1", "item 0 3 0 = MAX");
        Edge.reads("item 0 0 0", "item 3 3 1");
        Sentence.of(34, "BAD: no such SHEET, sort; -11; -13; -12.");
        Edge.refused(-1, "item -1 0 0", "item 4 0 0", "item MIN 0 0", "item MAX 0 0", "item 0 -1 0", "item 0 4 0", "item 0 MIN 0", "item 0 MAX 0");
        Edge.refused(-11, "item 2 0 0", "item 2 1 0", "item 2 2 0", "item 2 3 0");
        Edge.refused(-13, "item 0 1 0", "item 0 2 0", "item 0 3 0", "item 1 0 0", "item 1 2 0", "item 3 0 0", "item 3 2 0");
        Edge.refused(-12, "item 0 0 -1", "item 0 0 3", "item 1 1 2", "item 3 3 2", "item 0 0 MIN", "item 0 0 MAX");
        Sentence.of(34, "(An item may be as low as these, too.)");
        for (int low : new int[] {-1, -11, -12, -13}) {
            for (int sort = 0; sort < 4; sort++) {
                Edge.asked("sheet 1 " + sort + " 1 = 1", "put 1 0 " + low + " = 1", "item 1 " + sort + " 0 = " + low);
            }
        }
    }

    private static void shelf() {
        Sentence.of(35, "A SHELF holds HELD RULE n (what 0), the row of SHEET n (1; nothing, if missing), nothing (2): 1.");
        Edge.changes("shelf 0 0 0", 1, "the shelves");
        Edge.changes("shelf 3 0 5", 1, "the shelves");
        Edge.changes("shelf 0 0 5", 1);
        Edge.changes("shelf 0 1 0", 1, "the shelves");
        Edge.changes("shelf 3 1 3", 1, "the shelves");
        Edge.changes("shelf 0 1 2", 1, "the shelves");
        Edge.changes("shelf 1 1 2", 1, "the shelves");
        Edge.changes("shelf 2 1 2", 1);
        for (String n : new String[] {"0", "-1", "6", "MIN", "MAX"}) {
            Edge.changes("shelf 0 2 " + n, 1, "the shelves");
            Edge.changes("shelf 2 2 " + n, 1);
        }
        // the row that it was then, whatever the SHEET becomes
        Edge.ask(Edge.inUse(), "shelf 0 1 3 = 1", "taken 0 13 = 2", "sheet 3 0 40 = 1", "taken 0 13 = 2", "taken 0 10 = -13", "sheet 3 -1 0 = 1", "taken 0 13 = 2",
            "taken 3 12 = 4", "shelf 0 1 3 = 1", "taken 0 13 = -11", "taken 0 0 = -11");
        Sentence.of(35, "BAD: no such SHELF, what, thing.");
        Edge.refused(-1, "shelf -1 0 0", "shelf 4 0 0", "shelf MIN 2 0", "shelf MAX 2 0", "shelf 0 -1 0", "shelf 0 3 0", "shelf 0 MIN 0", "shelf 0 MAX 0",
            "shelf 0 0 -1", "shelf 0 0 6", "shelf 0 0 MIN", "shelf 0 0 MAX", "shelf 0 1 -1", "shelf 0 1 4", "shelf 0 1 MIN", "shelf 0 1 MAX");
        Edge.refusedOf(() -> Edge.asked("hold 0 0 0 1 = 0", "shelf 0 0 0 = 1"), -1, "shelf 0 0 1", "shelf 1 0 1");
    }

    private static void taken() {
        Sentence.of(36, "What a SHELF holds taken for a thing of KIND as (0 to 5, or one under it): its number;"
            + " for a row of sort as - 10 (as 10 to 13): how many items.");
        Edge.ask(Edge.inUse(), "taken 0 0 = 5", "taken 0 1 = 5", "taken 0 2 = 5", "taken 0 5 = 5", "taken 1 10 = 3", "taken 3 12 = 4");
        for (int sort = 0; sort < 4; sort++) {
            int as = sort + 10;
            Edge.asked("sheet 0 " + sort + " 0 = 1", "shelf 3 1 0 = 1", "taken 3 " + as + " = 0", "sheet 0 " + sort + " 40 = 1", "shelf 3 1 0 = 1",
                "taken 3 " + as + " = 40");
        }
        Edge.asked("hold 0 0 0 1 = 0", "shelf 0 0 0 = 1", "taken 0 0 = 0", "taken 0 1 = -13", "taken 0 10 = -13");
        Edge.reads("taken 0 0", "taken 1 10");
        Sentence.of(36, "BAD: no such SHELF, as; -11; -13.");
        Edge.refused(-1, "taken -1 0", "taken 4 0", "taken MIN 0", "taken MAX 0", "taken 0 -1", "taken 0 6", "taken 0 9", "taken 0 14", "taken 0 MIN",
            "taken 0 MAX", "taken 1 6", "taken 1 9", "taken 1 14");
        Edge.refused(-11, "taken 2 0", "taken 2 5", "taken 2 10", "taken 2 13");
        Edge.refused(-13, "taken 0 3", "taken 0 4", "taken 0 10", "taken 0 13", "taken 1 0", "taken 1 5", "taken 1 11", "taken 1 13", "taken 3 10", "taken 3 0");
    }

    private static void act() {
        Sentence.of(37, "An ACT (0 to 3) of the thing on a SHELF, with x.");
        Edge.changes("act 0 0 7", -12, "the trace");
        Edge.changes("act 0 1 7", -38, "the trace");
        Edge.changes("act 0 2 7", -16, "the trace");
        Edge.changes("act 0 3 7", -68);
        Edge.asked("hold 0 0 0 1 = 0", "shelf 3 0 0 = 1", "act 3 0 MIN = MIN", "act 3 0 MAX = MAX", "act 3 3 0 = 0");
        Sentence.of(37, "0, and no TRACE then: no such SHELF, act, nothing, a row.");
        for (String call : new String[] {"-1 0 7", "4 0 7", "MIN 0 7", "MAX 0 7", "0 -1 7", "0 4 7", "0 MIN 7", "0 MAX 7", "2 0 7", "2 3 7", "1 0 7", "3 2 7"}) {
            Edge.changes("act " + call, 0, "the trace");
            Edge.ask(Edge.inUse(), "many 6 = 9", "act " + call + " = 0", "many 6 = 0", "trace 0 = -3");
        }
        Edge.ask(Edge.inUse(), "drop 5 = 5", "act 0 0 7 = 0", "many 6 = 0");
        // of no KIND is there an ACT beyond
        for (int kind = 0; kind < 6; kind++) {
            for (String act : new String[] {"-1", "4", "MIN", "MAX"}) {
                Edge.ask(Edge.inUse(), "shelf 0 0 " + kind + " = 1", "act 0 " + act + " 7 = 0", "many 6 = 0");
            }
        }
    }

    private static void trace() {
        Sentence.of(38, "THE TRACE's i-th body.");
        Edge.ask(Edge.inUse(), "trace 0 = 60", "trace 1 = 13", "trace 8 = 10", "act 0 2 1 = -10", "trace 0 = 61", "trace 3 = 10", "trace 4 = -3", "act 0 0 1 = -6",
            "trace 0 = 40", "trace 1 = 10", "trace 2 = -3");
        Edge.reads("trace 0", "trace 8");
        Sentence.of(38, "NONE.");
        Edge.refused(-3, "trace -1", "trace 9", "trace 29", "trace 30", "trace MIN", "trace MAX");
        Edge.asked("trace 0 = -3", "trace -1 = -3");
    }

    private static void many() {
        Sentence.of(39, "How many: what = 0 told YEARS, 1 HELD RULES, 2 VILLAGES, 3 LAST, 4 ROWS, 5 bytes of THE TAPE,"
            + " 6 bodies of THE TRACE (those kept, 30 at most).");
        Edge.asked("many 0 = 0", "many 1 = 0", "many 2 = 10", "many 3 = 0", "many 4 = 0", "many 5 = 0", "many 6 = 0");
        Edge.ask(Edge.inUse(), "many 0 = 4", "many 1 = 6", "many 2 = 7", "many 3 = 9", "many 4 = 4", "many 5 = 199", "many 6 = 9");
        FairNext x = Edge.asked("hold 0 0 1 1 = 0");
        for (int year = 0; year < 24; year++) {
            Edge.ask(x, "year " + year + " 0 = -9");
        }
        Due.feed(x, " ".repeat(200));
        Edge.ask(x, "prove 0 = 24", "many 0 = 24", "many 3 = 24", "many 4 = 24", "many 5 = 200");
        Edge.reads("many 0", "many 3", "many 6");
        Sentence.of(39, "BAD: another what.");
        Edge.refused(-1, "many -1", "many 7", "many MIN", "many MAX");
    }

    private static void keep() {
        Sentence.of(40, "THE BOOK, HELD RULES and z are kept: 1.");
        Edge.changes("keep", 1, "what is kept");
        FairNext x = Edge.inUse();
        Edge.ask(x, "keep = 1", "book = 1", "villages 2 = 3", "mark 23 1 = 0", "year 0 1 = -9", "hold 0 4 4 4 = 1", "seed 5 = 77", "again = 4", "seed 77 = 77",
            "many 0 = 4", "many 1 = 6", "many 2 = 7", "many 3 = 9", "yearOf 0 0 = 3", "yearOf 8 0 = 9", "yearOf 7 0 = -9", "yearOf 23 1 = 8", "yearOf 7 1 = 0",
            "ruleOf 0 0 = 0", "ruleOf 5 0 = 5", "ruleOf 5 1 = 4");
        // what is empty is kept too
        Edge.asked("keep = 1", "year 0 1 = -9", "mark 1 1 = 0", "villages 2 = 10", "hold 0 0 0 1 = 0", "seed 9 = 1", "again = 0", "many 0 = 0", "many 1 = 0",
            "many 2 = 10", "yearOf 1 1 = 0", "seed 1 = 1");
    }

    private static void again() {
        Sentence.of(41, "They become what was kept latest (which stays): how many YEARS are told.");
        Edge.changes("again", 2, "the book", "the rules", "the shelves", "z");
        FairNext x = Edge.inUse();
        Edge.ask(x, "again = 2", "year 1 -1 = 4", "hold 0 0 0 1 = 1", "seed 3 = 55", "again = 2", "yearOf 1 0 = 4", "many 1 = 1", "seed 55 = 55", "drop 0 = 0",
            "year 1 -1 = 4", "year 22 -1 = 3", "keep = 1", "year 5 5 = -9", "again = 0", "many 1 = 0", "many 0 = 0", "many 2 = 5", "yearOf 1 1 = 2");
        FairNext full = new FairNext();
        for (int year = 0; year < 24; year++) {
            Edge.ask(full, "year " + year + " 9 = -9", "mark " + year + " 9 = 0");
        }
        Edge.ask(full, "hold 0 0 0 1 = 0", "hold 1 0 0 1 = 1", "hold 2 0 0 1 = 2", "hold 3 0 0 1 = 3", "hold 4 0 0 1 = 4", "hold 5 0 0 1 = 5", "keep = 1",
            "book = 0", "again = 24", "many 0 = 24", "many 1 = 6", "hold 0 0 0 1 = -2", "yearOf 23 1 = 9", "yearOf 0 0 = 9", "ruleOf 5 0 = 5");
        // ROWS, THE TAPE, SHEETS and THE TRACE aren't kept and stay
        Edge.ask(Edge.inUse(), "again = 2", "many 4 = 4", "many 5 = 199", "many 6 = 9", "item 0 0 0 = 5", "taken 1 10 = 3");
        Sentence.of(41, "NONE: nothing is kept.");
        Edge.refusedOf(() -> Edge.asked("year 1 1 = -9", "mark 2 2 = 0", "hold 0 0 1 1 = 0", "seed 8 = 1", "villages 4 = 10"), -3, "again");
        Edge.refusedOf(FairNext::new, -3, "again");
    }

    private static void calls() {
        Sentence.of(Sentence.USE, "An object is used for at most 512 calls after it has been made;");
        FairNext x = new FairNext();
        for (int call = 1; call <= 512; call++) {
            Edge.ask(x, "seed " + (call + 1) + " = " + call);
        }
    }
}
