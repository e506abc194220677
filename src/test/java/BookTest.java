// Promises 1 to 7: a new object, feed, book, year, mark, yearOf, villages.
public final class BookTest {
    private static final String SIX = "rule 0 0 1;rule 0 0 1;rule 0 0 1;rule 0 0 1;rule 0 0 1;rule 0 0 1;";

    public static void main(String[] args) {
        newObject();
        feed();
        goodTexts();
        faults();
        faultsOfNumbers();
        whatABookLeaves();
        year();
        mark();
        yearOf();
        villages();
        Due.end("BookTest");
    }

    private static void newObject() {
        FairNext x = new FairNext();
        int[] many = {0, 0, 10, 0, 0, 0, 0};
        for (int what = 0; what < many.length; what++) {
            Due.is("1 many(" + what + ")", x.many(what), many[what]);
        }
        for (int year = 0; year < 24; year++) {
            Due.is("1 VILLAGE of " + year, x.yearOf(year, 0), -9);
            Due.is("1 MARK of " + year, x.yearOf(year, 1), 0);
        }
        Due.is("1 again", x.again(), -3);
        Due.is("1 seed", x.seed(7), 1);
        Due.is("1 trace", x.trace(0), -3);
        Due.is("1 row", x.row(0, 0), -99);
        for (int i = 0; i < 4; i++) {
            Due.is("1 item", x.item(i, 0, 0), -11);
            Due.is("1 taken", x.taken(i, 0), -11);
        }
    }

    private static void feed() {
        FairNext x = new FairNext();
        Due.is("2 n 0", x.feed(0, 0), -1);
        Due.is("2 n 9", x.feed(0, 9), -1);
        Due.is("2 n below 0", x.feed(0, Integer.MIN_VALUE), -1);
        Due.is("2 none came", x.many(5), 0);
        // "lost" and four bytes that don't come; then " 1;"
        Due.is("2 lowest first", x.feed(0x2121212174736f6cL, 4), 4);
        Due.is("2 lowest first", x.feed(0x3b3120, 3), 7);
        Due.is("2 read", x.book(), 0);
        for (int i = 1; i <= 24; i++) {
            Due.is("2 eight more", x.feed(0x2020202020202020L, 8), 8 * i);
        }
        Due.is("2 199", x.feed(0x20202020202020L, 7), 199);
        Due.is("2 two too many", x.feed(0x2020, 2), -2);
        Due.is("2 nothing came", x.many(5), 199);
        Due.is("2 200", x.feed(0x20, 1), 200);
        Due.is("2 full", x.feed(0x20, 1), -2);
        Due.is("2 BAD is first", x.feed(0x20, 0), -1);
        Due.is("2 still 200", x.many(5), 200);
        Due.is("2 all blanks", x.book(), 0);
        Due.is("2 used up", x.many(5), 0);
        Due.is("2 highest bit", x.feed(0x8000000000000000L, 8), 8);
        Due.is("2 a byte of 0", x.book(), -100);
        Due.is("2 a byte of 255", x.feed(-1L, 1), 1);
        Due.is("2 a byte of 255", x.book(), -100);
    }

    private static void goodTexts() {
        text("", 0);
        text("     ", 0);
        text("villages 2;", 0);
        text("villages 02;", 0);
        text("year 0 at 0;", 1);
        text("year 23 at 9 mark 9;", 1);
        text("year 23 at 9 mark 0;", 1);
        text("  year   01  at 2   mark   03  ;  lost 2 ; ", 1);
        text("year 1 at 2;year 1 at 3;year 0 at 1;", 2);
        text("year 1 at 2;lost 1;", 0);
        text("lost 1;year 1 at 2;", 1);
        text(SIX, 0);
        text(SIX + "lost 4;year 3 at 3;", 1);
        FairNext x = Due.of("villages 4;year 1 at 9 mark 2;year 2 at 3 mark 7;year 2 at 4;lost 5 mark 6;"
            + "rule 4 3 2;line 0 1 1;back 1 2 3;table 2 3 4;marked 3 4 1;turned 4 0 2;");
        int[] years = {1, 9, 2, 2, 4, 0, 5, -9, 6, 3, -9, 0};
        for (int i = 0; i < years.length; i += 3) {
            Due.is("3 VILLAGE of " + years[i], x.yearOf(years[i], 0), years[i + 1]);
            Due.is("3 MARK of " + years[i], x.yearOf(years[i], 1), years[i + 2]);
        }
        int[] rules = {0, 4, 3, 2, 1, 0, 1, 1, 2, 1, 2, 3, 3, 2, 3, 4, 4, 3, 4, 1, 5, 4, 0, 2};
        for (int i = 0; i < rules.length; i++) {
            Due.is("3 RULE " + i / 4 + ", " + i % 4, x.ruleOf(i / 4, i % 4), rules[i]);
        }
        Due.is("3 VILLAGES", x.many(2), 4);
        Due.is("3 RULES", x.many(1), 6);
    }

    private static void faults() {
        text("villages", -108);
        text("villages ", -109);
        text("villages;", -108);
        text("villages 5", -110);
        text("villages 5 ", -111);
        text("villages 5 5;", -111);
        text("village 5;", -100);
        text("villagess 5;", -100);
        text("villagesa 5;", -100);
        text("villagesz 5;", -100);
        text("Villages 5;", -100);
        text("mark 3;", -100);
        text("at", -100);
        text("7;", -100);
        text(";", -100);
        text("  ;", -102);
        text("year 1;", -106);
        text("year 1 a 2;", -107);
        text("year 1 mark 2;", -107);
        text("year 1 2;", -107);
        text("year 1 at", -109);
        text("year 1 at ;", -110);
        text("year 1 at 2 marks 1;", -112);
        text("year 1 at 2 mark;", -116);
        text("year 1 at 2 mark 1 mark 2;", -119);
        text("year 1 at 2;;", -112);
        text("year 1 at 2;year", -116);
        text("year\t1 at 2;", -104);
        text("lost 1 at 2;", -107);
        text("lost;", -104);
        text("rule 0 0;", -108);
        text("rule 0 0 1 1;", -111);
        text("rule 0 0 1", -110);
        text("rules 0 0 1;", -100);
        text("turned x;", -107);
        text("lost 1;lin 0 0 1;", -107);
        text(SIX + "turned 9", -166);
        text(SIX + "  line", -168);
        text(SIX + "lines", -166);
    }

    private static void faultsOfNumbers() {
        text("villages 1;", -109);
        text("villages 11;", -109);
        text("villages 010;", -109);
        text("villages  100;", -110);
        text("year 24 at 1;", -105);
        text("year 99999999999999 at 1;", -105);
        text("year 1 at 10;", -110);
        text("year 1 at 2 mark 10;", -117);
        text("year 001 at 1;", -105);
        text("lost 24;", -105);
        text("lost 2 mark 10;", -112);
        String[] kinds = {"rule", "line", "back", "table", "marked", "turned"};
        for (String kind : kinds) {
            int at = kind.length() + 1;
            text(kind + " 0 0 1;", 0);
            text(kind + " 4 4 4;", 0);
            text(kind + " 5 0 1;", -100 - at);
            text(kind + " 0 5 1;", -102 - at);
            text(kind + " 0 0 0;", -104 - at);
            text(kind + " 0 0 5;", -104 - at);
        }
    }

    private static void whatABookLeaves() {
        FairNext x = Due.of("villages 6;year 3 at 5 mark 4;line 1 2 1;");
        Due.is("3 prove", x.prove(0), 1);
        Due.is("3 seed", x.seed(77), 1);
        Due.is("3 a FAULT", Due.read(x, "year 4 at 4;villages 3;rule 0 0 1;oh"), -134);
        Due.is("3 the TAPE is used up", x.many(5), 0);
        Due.is("3 as it was", x.yearOf(3, 0), 5);
        Due.is("3 as it was", x.yearOf(3, 1), 4);
        Due.is("3 as it was", x.yearOf(4, 0), -9);
        Due.is("3 as it was", x.many(2), 6);
        Due.is("3 as it was", x.many(1), 1);
        Due.is("3 ROWS stay", x.many(4), 1);
        Due.is("3 a good one", Due.read(x, "year 4 at 4;"), 1);
        Due.is("3 by it alone", x.yearOf(3, 0), -9);
        Due.is("3 by it alone", x.yearOf(3, 1), 0);
        Due.is("3 by it alone", x.many(2), 10);
        Due.is("3 by it alone", x.many(1), 0);
        Due.is("3 no ROWS", x.many(4), 0);
        Due.is("3 no ROWS", x.row(0, 0), -99);
        Due.is("3 z stays", x.seed(0), 77);
        Due.is("3 what was on THE TAPE", Due.read(x, "lost 1;lost 11;"), 0);
        Due.is("3 is not read again", Due.read(x, "lost 1"), -106);
        Due.is("3 is not read again", Due.read(x, "lost 1;lost 1"), -113);
        Due.is("3 is not read again", Due.read(x, "los"), -100);
    }

    private static void year() {
        FairNext x = new FairNext();
        Due.is("4 told", x.year(0, 0), -9);
        Due.is("4 told", x.year(23, 9), -9);
        Due.is("4 was", x.year(23, 4), 9);
        Due.is("4 a mark", x.mark(23, 3), 0);
        Due.is("4 lost", x.year(23, -1), 4);
        Due.is("4 lost again", x.year(23, -1), -9);
        Due.is("4 the MARK stays", x.yearOf(23, 1), 3);
        Due.is("4 BAD", x.year(-1, 0), -1);
        Due.is("4 BAD", x.year(24, 0), -1);
        Due.is("4 BAD", x.year(0, -2), -1);
        Due.is("4 BAD", x.year(0, 10), -1);
        Due.is("4 BAD", x.year(Integer.MAX_VALUE, Integer.MIN_VALUE), -1);
        Due.is("4 as it was", x.yearOf(0, 0), 0);
        Due.is("4 beyond N", x.villages(2), 10);
        Due.is("4 beyond N", x.year(1, 9), -9);
        Due.is("4 beyond N", x.yearOf(1, 0), 9);
    }

    private static void mark() {
        FairNext x = new FairNext();
        Due.is("5 mark", x.mark(0, 9), 0);
        Due.is("5 mark", x.mark(0, 0), 9);
        Due.is("5 mark", x.mark(23, 5), 0);
        Due.is("5 BAD", x.mark(-1, 0), -1);
        Due.is("5 BAD", x.mark(24, 0), -1);
        Due.is("5 BAD", x.mark(23, -1), -1);
        Due.is("5 BAD", x.mark(23, 10), -1);
        Due.is("5 as it was", x.yearOf(23, 1), 5);
        Due.is("5 not told by it", x.many(0), 0);
    }

    private static void yearOf() {
        FairNext x = Due.of("year 0 at 3 mark 2;year 23 at 0;");
        Due.is("6", x.yearOf(0, 0), 3);
        Due.is("6", x.yearOf(0, 1), 2);
        Due.is("6", x.yearOf(23, 0), 0);
        Due.is("6 lost", x.yearOf(22, 0), -9);
        Due.is("6 BAD", x.yearOf(-1, 0), -1);
        Due.is("6 BAD", x.yearOf(24, 0), -1);
        Due.is("6 BAD", x.yearOf(0, -1), -1);
        Due.is("6 BAD", x.yearOf(0, 2), -1);
    }

    private static void villages() {
        FairNext x = Due.of("rule 0 4 1;");
        Due.is("7", x.villages(3), 10);
        Due.is("7 rest", x.says(0, 0), 1);
        Due.is("7", x.villages(2), 3);
        Due.is("7 BAD", x.villages(1), -1);
        Due.is("7 BAD", x.villages(11), -1);
        Due.is("7 BAD", x.villages(Integer.MIN_VALUE), -1);
        Due.is("7 as it was", x.villages(10), 2);
    }

    private static void text(String text, int want) {
        FairNext x = new FairNext();
        Due.is("3 book() of '" + text + "'", Due.read(x, text), want);
        Due.is("3 the TAPE is used up", x.many(5), 0);
    }
}
