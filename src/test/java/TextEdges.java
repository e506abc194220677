// The edges of THE TAPE and of TEXT, as "Terms" and the promises 1 to 7 name them.
final class TextEdges {
    private static final String[] KINDS = {"rule", "line", "back", "table", "marked", "turned"};
    private static final String SIX = "rule 0 0 1;line 0 0 1;back 0 0 1;table 0 0 1;marked 0 0 1;turned 0 0 1;";

    private TextEdges() {
    }

    static void all() {
        tape();
        sentences();
        villages();
        yearAndLost();
        kinds();
        byItAlone();
        toldTwice();
        names();
        blanks();
        faults();
        faultAtTheEnd();
        newObject();
        feed();
        book();
        year();
        mark();
        yearOf();
        villagesBecome();
    }

    private static FairNext with(int bytes) {
        FairNext x = new FairNext();
        Due.feed(x, " ".repeat(bytes));
        return x;
    }

    private static void tape() {
        Sentence.of(0, "THE TAPE takes bytes, 200 at most; book() uses it up.");
        FairNext x = with(200);
        Edge.ask(x, "feed 32 1 = -2", "many 5 = 200", "book = 0", "many 5 = 0", "feed 32 1 = 1", "book = 0");
        Edge.ask(with(199), "feed 32 1 = 200", "feed 32 1 = -2");
        Edge.ask(with(199), "feed 32 2 = -2", "many 5 = 199");
        Edge.ask(with(192), "feed 0x2020202020202020 8 = 200");
        Edge.ask(with(193), "feed 0x2020202020202020 8 = -2", "feed 0x20202020202020 7 = 200");
        // what was on it isn't read again, though what came then is shorter
        FairNext y = Due.of("lost 11;year 11 at 2;");
        Due.is("lost 11", Due.read(y, "lost 11"), -107);
        Due.is("lost 1", Due.read(y, "lost 1"), -106);
        Due.is("lost", Due.read(y, "lost"), -104);
        Due.is("los", Due.read(y, "los"), -100);
        Due.is("lost 1;", Due.read(y, "lost 1;"), 0);
        Due.is("lost 11;year 1", Due.read(y, "lost 11;year 1"), -114);
        // uses it up with a FAULT too, and what was behind the FAULT
        Edge.ask(new FairNext(), "feed 0x3b203b20 4 = 4", "book = -101", "many 5 = 0", "book = 0");
    }

    private static void sentences() {
        Sentence.of(0, "TEXT: { villages N ; | year N at N [ mark N ] ; | lost N [ mark N ] ; | KIND N N N ; }");
        // none, one, many; with what may be left away and without
        Edge.texts(0, "", " ", "villages 3;", "lost 1;", "lost 1 mark 2;", "rule 1 1 1;", "villages 3;villages 4;lost 1;rule 1 1 1;");
        Edge.texts(1, "year 1 at 2;", "year 1 at 2 mark 3;", "lost 2;year 1 at 2;villages 3;turned 1 1 1;");
        Edge.texts(-100, ";", "at", "mark", "1", "at 1;", "mark 1;", "2 3;", "N;", "yearn 1 at 2;", "told 1;");
        text("villages 3 4;", 11);
        text("villages 3 mark 4;", 11);
        text("villages 3;;", 11);
        text("year 1 mark 2;", 7);
        text("year 1;", 6);
        text("year 1 2;", 7);
        text("year at 2;", 5);
        text("year 1 at mark 2;", 10);
        text("year 1 at 2 at 3;", 12);
        text("year 1 at 2 mark;", 16);
        text("year 1 at 2 mark 3 mark 4;", 19);
        text("year 1 at 2 mark 3 4;", 19);
        text("lost 1 at 2;", 7);
        text("lost 1 2;", 7);
        text("lost;", 4);
        text("lost 1 mark;", 11);
        text("lost 1 mark 2 3;", 14);
        text("lost 1 mark 2 mark 3;", 14);
        for (String kind : KINDS) {
            int at = kind.length();
            text(kind + ";", at);
            text(kind + " 1;", at + 2);
            text(kind + " 1 1;", at + 4);
            text(kind + " 1 1 1 1;", at + 7);
            text(kind + " 1 1 1 mark 1;", at + 7);
        }
        text("villages 3;year 1 at 2;KIND 1 1 1;", 23);
    }

    // The FAULT of a text.
    private static void text(String text, int fault) {
        Edge.text(text, -100 - fault);
    }

    private static void villages() {
        Sentence.of(0, "villages: N (2 to 10).");
        for (int n = 2; n <= 10; n++) {
            Edge.ask(Due.of("villages " + n + ";"), "many 2 = " + n);
        }
        text("villages 0;", 9);
        text("villages 1;", 9);
        text("villages 11;", 9);
        text("villages 99;", 9);
        text("villages -2;", 9);
    }

    private static void yearAndLost() {
        Sentence.of(0, "year, lost: YEAR (0 to 23), VILLAGE (0 to 9), MARK (0 if not told).");
        FairNext x = Due.of("year 0 at 9 mark 9;year 23 at 0 mark 0;lost 22 mark 9;year 3 at 4;lost 1 mark 0;villages 2;");
        Edge.ask(x, "many 0 = 3", "yearOf 0 0 = 9", "yearOf 0 1 = 9", "yearOf 23 0 = 0", "yearOf 23 1 = 0", "yearOf 22 0 = -9", "yearOf 22 1 = 9",
            "yearOf 3 0 = 4", "yearOf 3 1 = 0", "yearOf 1 1 = 0");
        Edge.ask(Due.of("lost 0 mark 1;lost 23 mark 2;"), "yearOf 0 1 = 1", "yearOf 23 1 = 2", "many 0 = 0");
        text("year 24 at 1;", 5);
        text("year 99 at 1;", 5);
        text("year -1 at 1;", 5);
        text("year 1 at 10;", 10);
        text("year 1 at -1;", 10);
        text("year 1 at 2 mark 10;", 17);
        text("year 1 at 2 mark -1;", 17);
        text("lost 24;", 5);
        text("lost -1;", 5);
        text("lost 2 mark 10;", 12);
    }

    private static void kinds() {
        Sentence.of(0, "KIND (rule | line | back | table | marked | turned): A, B, K of a RULE that is HELD.");
        int[] numbers = {0, 1, 2, 3, 4, 5};
        for (int i = 0; i < KINDS.length; i++) {
            FairNext x = Due.of(KINDS[i] + " 0 0 1;" + KINDS[i] + " 4 4 4;" + KINDS[i] + " 1 2 3;");
            Edge.ask(x, "many 1 = 3", "ruleOf 0 0 = " + numbers[i], "ruleOf 0 1 = 0", "ruleOf 0 2 = 0", "ruleOf 0 3 = 1", "ruleOf 1 0 = " + numbers[i],
                "ruleOf 1 1 = 4", "ruleOf 1 2 = 4", "ruleOf 1 3 = 4", "ruleOf 2 1 = 1", "ruleOf 2 2 = 2", "ruleOf 2 3 = 3");
            int at = KINDS[i].length() + 1;
            text(KINDS[i] + " 5 0 1;", at);
            text(KINDS[i] + " 0 5 1;", at + 2);
            text(KINDS[i] + " 0 0 0;", at + 4);
            text(KINDS[i] + " 0 0 5;", at + 4);
            text(KINDS[i] + " 5 5 5;", at);
        }
        // the KINDS of the text stand in another order than their numbers
        FairNext six = Due.of(SIX);
        Edge.ask(six, "ruleOf 0 0 = 0", "ruleOf 1 0 = 1", "ruleOf 2 0 = 2", "ruleOf 3 0 = 3", "ruleOf 4 0 = 4", "ruleOf 5 0 = 5");
    }

    private static void byItAlone() {
        Sentence.of(0, "THE BOOK is by it alone (YEARS not told are lost, 10 VILLAGES, no RULES HELD);");
        FairNext x = Due.of("villages 4;year 0 at 1 mark 2;year 23 at 3 mark 4;lost 5 mark 6;rule 0 0 1;");
        Due.is("one YEAR alone", Due.read(x, "year 3 at 4 mark 5;"), 1);
        for (int year = 0; year < 24; year++) {
            Edge.ask(x, "yearOf " + year + " 0 = " + (year == 3 ? 4 : -9), "yearOf " + year + " 1 = " + (year == 3 ? 5 : 0));
        }
        Edge.ask(x, "many 2 = 10", "many 1 = 0", "hold 1 0 0 1 = 0", "villages 3 = 10", "book = 0", "many 0 = 0", "many 1 = 0", "many 2 = 10",
            "yearOf 3 1 = 0");
    }

    private static void toldTwice() {
        Sentence.of(0, "of a YEAR told twice the last one counts.");
        FairNext x = Due.of("year 0 at 1 mark 2;year 0 at 3;year 1 at 2;lost 1 mark 4;lost 2 mark 3;year 2 at 5;year 3 at 6 mark 7;lost 3;year 3 at 8;");
        Edge.ask(x, "many 0 = 3", "yearOf 0 0 = 3", "yearOf 0 1 = 0", "yearOf 1 0 = -9", "yearOf 1 1 = 4", "yearOf 2 0 = 5", "yearOf 2 1 = 0",
            "yearOf 3 0 = 8", "yearOf 3 1 = 0");
    }

    private static void names() {
        Sentence.of(0, "NAMES are rows of letters a to z, NUMBERS rows of digits (1 or 2), both as long as they go;");
        // the bytes beside a, z, 0 and 9, and capitals
        for (char sign : new char[] {'`', '{', 'A', 'Z', '@', '[', '/', ':', '_', '-', '+', '.'}) {
            text(sign + "year 1 at 2;", 0);
            text("year" + sign + " 1 at 2;", 4);
            text("year 1" + sign + " at 2;", 6);
            text("year " + sign + "1 at 2;", 5);
            text("year 1 at 2" + sign + ";", 11);
        }
        Edge.texts(-100, "yeara 1 at 2;", "yearz 1 at 2;", "yea 1 at 2;", "yearat 1 at 2;", "ayear 1 at 2;", "Year 1 at 2;", "lostlost 1;", "lines 1 1 1;",
            "villagesyear");
        text("year 1 atmark 2;", 7);
        text("year 1 at 2 marks 3;", 12);
        text("year 1 at 2 mar 3;", 12);
        // one digit or two
        Edge.texts(1, "year 01 at 02 mark 03;", "year 00 at 09 mark 00;", "year 23 at 0;", "villages 02;year 1 at 1;", "rule 04 04 04;year 1 at 1;");
        text("year 001 at 2;", 5);
        text("year 1 at 002;", 10);
        text("year 1 at 2 mark 003;", 17);
        text("villages 002;", 9);
        text("villages 100;", 9);
        text("rule 000 0 1;", 5);
        text("year 99999999999999999999 at 2;", 5);
        text("year 18446744073709551616 at 2;", 5);
        text("year 4294967296 at 2;", 5);
    }

    private static void blanks() {
        Sentence.of(0, "blanks (32) part them, and stand elsewhere as one likes.");
        Edge.texts(1, "   year   1   at   2   mark   3   ;   ", "year 1 at 2 ;", " year 1 at 2;", "year 1 at 2; ", "year 1 at 2;  lost 2;");
        // as a NAME and a NUMBER each go as long as they go, they are apart without a blank too
        Edge.texts(1, "year1at2mark3;", "year1at2;lost2;");
        text("year 1 a t 2;", 7);
        text("ye ar 1 at 2;", 0);
        text("villages 1 0;", 9);
        text("villages 2 0;", 11);
        for (int sign : new int[] {0, 9, 10, 13, 31, 33, 128, 160, 255}) {
            text("year" + (char) sign + "1 at 2;", 4);
            text((char) sign + "year 1 at 2;", 0);
            text("year 1 at 2;" + (char) sign, 12);
        }
    }

    private static void faults() {
        Sentence.of(0, "FAULT: the place (from 0) of the first byte of the first NAME, NUMBER or other byte that can't stand there"
            + " or is not as told (a NUMBER out of range, of more digits; the first NAME of a seventh RULE),");
        text("?", 0);
        text("   ?", 3);
        text("lost 1;  lots 2;", 9);
        text("lost 1;  lost 24;", 14);
        text("lost 1;  lost 123;", 14);
        text("lost 24 mark 99;lots", 5);
        text("year 24 at 10 mark 10;", 5);
        text("year 1 at 10 mark 10;", 10);
        text("year 1 in 10;", 7);
        text("rule 9 9 9;", 5);
        text("villages 3;villages 1;", 20);
        Edge.text(Edge.padded("lost 1;", 199) + "?", -299);
        Edge.text(Edge.padded("lost 1;", 199) + ";", -299);
        Edge.text(SIX + "lost 1;year 2 at 3;villages 4;", 1);
        for (String kind : KINDS) {
            text(SIX + kind + " 0 0 1;", SIX.length());
            text(SIX + "lost 1;  " + kind + " 9 9 9", SIX.length() + 9);
            text(SIX + kind, SIX.length());
        }
        text(SIX + "rules", SIX.length());
    }

    private static void faultAtTheEnd() {
        Sentence.of(0, "or the end (how many bytes there are), if more must come.");
        String[] texts = {"villages 3;", "year 1 at 2 mark 3;", "lost 1 mark 2;", "rule 1 1 1;", "turned 1 1 1;"};
        for (String text : texts) {
            for (int at = 1; at < text.length(); at++) {
                // behind a whole NAME or NUMBER, and behind the blank that follows
                if (text.charAt(at) == ' ' || text.charAt(at) == ';') {
                    String part = text.substring(0, at);
                    text(part, at);
                    text(part + " ", at + 1);
                    text(part + "   ", at + 3);
                    text("lost 2;" + part, at + 7);
                }
            }
        }
        text(Edge.padded("lost 1", 200), 200);
        text(" ".repeat(196) + "lost", 200);
        // what isn't a whole NAME is not as told
        text("yea", 0);
        text("year 1 a", 7);
        text("year 1 at 2 mar", 12);
    }

    private static void newObject() {
        Sentence.of(1, "All YEARS lost, 10 VILLAGES, no RULES; nothing is kept.");
        FairNext x = new FairNext();
        for (int year = 0; year < 24; year++) {
            Edge.ask(x, "yearOf " + year + " 0 = -9", "yearOf " + year + " 1 = 0");
        }
        Edge.ask(x, "many 0 = 0", "many 1 = 0", "many 2 = 10", "many 3 = 0", "many 4 = 0", "many 5 = 0", "many 6 = 0", "ruleOf 0 0 = -1", "drop 0 = -1",
            "says 0 0 = -1", "run 0 = -1", "believed 0 1 = -1", "on 0 0 = -1", "here 0 0 0 = -1", "never 0 = -1", "prove 0 = -1", "judge 0 = -1",
            "shelf 0 0 0 = -1", "row 0 0 = -99", "alterRow 0 0 0 = -99", "trace 0 = -3", "act 0 0 0 = 0", "item 0 0 0 = -11", "item 3 3 0 = -11",
            "taken 0 0 = -11", "taken 3 13 = -11", "again = -3", "seed 1 = 1");
    }

    private static void feed() {
        Sentence.of(2, "n bytes (1 to 8) come to THE TAPE, the lowest of eight first: how many it has.");
        // "lost 1; " is 20 3b 31 20 74 73 6f 6c from the highest; of what is beyond n nothing comes
        Edge.asked("feed 0x203b312074736f6c 8 = 8", "many 5 = 8", "book = 0");
        Edge.asked("feed 0x3f3f3f3f3f3f3f6c 1 = 1", "feed 0x3f3f3f3f3f3f736f 2 = 3", "feed 0x3f3f3f3f3f312074 3 = 6", "feed 0x3f3b 1 = 7", "book = 0");
        Edge.asked("feed 0x74736f6c 4 = 4", "feed 0x3f3f3f3f3b3120 3 = 7", "book = 0");
        // the highest byte of eight, below 0 too
        Edge.asked("feed 0x3f20202020202020 8 = 8", "book = -107");
        Edge.asked("feed -1 8 = 8", "book = -100");
        Edge.asked("feed 0x2020202020202020 7 = 7", "feed 0x3f 1 = 8", "book = -107");
        Sentence.of(2, "BAD; FULL: more than 200.");
        Edge.refused(-1, "feed 0 0", "feed 0 9", "feed 0 -1", "feed 32 MIN", "feed 32 MAX");
        Edge.changes("feed 32 1", 200, "the tape");
        Edge.refused(-2, "feed 32 2", "feed 32 8");
        Edge.refusedOf(() -> with(200), -2, "feed 32 1", "feed 32 8");
        Edge.refusedOf(() -> with(200), -1, "feed 32 0", "feed 32 9");
    }

    private static void book() {
        Sentence.of(3, "THE TAPE becomes THE BOOK: how many YEARS are told;");
        Edge.changes("book", 1, "the book", "the rules", "the rows", "the shelves", "the tape");
        Edge.asked("book = 0");
        // the most that go on THE TAPE
        StringBuilder most = new StringBuilder();
        for (int year = 0; year < 21; year++) {
            most.append("year").append(year).append("at").append(year % 10).append(";");
        }
        Due.is("bytes", most.length(), 200);
        FairNext x = Due.of(most.toString());
        Edge.ask(x, "many 0 = 21", "yearOf 20 0 = 0", "many 3 = 21");
        Sentence.of(3, "-100 less its FAULT.");
        text(";", 0);
        text(" ;", 1);
        text(" ".repeat(199) + ";", 199);
        text(Edge.padded("lost", 200), 200);
        FairNext y = Edge.inUse();
        Edge.ask(y, "book = 1", "feed 0x3f 1 = 1", "book = -100", "yearOf 7 0 = 8", "many 2 = 3", "many 1 = 1");
        Sentence.of(3, "There are no ROWS then; z stays.");
        FairNext z = Edge.inUse();
        Edge.ask(z, "many 4 = 4", "book = 1", "many 4 = 0", "row 0 0 = -99", "alterRow 0 0 1 = -99", "seed 77 = 77", "prove 0 = 1", "many 4 = 1",
            "feed 0x3f 1 = 1", "book = -100", "many 4 = 1", "seed 0 = 77");
    }

    private static void year() {
        Sentence.of(4, "A YEAR is told (village -1: lost): what it was (-9: lost).");
        Edge.changes("year 0 0", 3, "the book");
        Edge.changes("year 23 9", -9, "the book");
        Edge.changes("year 8 -1", 9, "the book");
        Edge.changes("year 2 -1", -9);
        Edge.changes("year 8 9", 9);
        Edge.asked("villages 2 = 10", "year 0 9 = -9", "yearOf 0 0 = 9", "mark 0 7 = 0", "year 0 0 = 9", "year 0 -1 = 0", "yearOf 0 1 = 7");
        Sentence.of(4, "BAD.");
        Edge.refused(-1, "year -1 0", "year 24 0", "year 0 -2", "year 0 10", "year MIN 0", "year MAX 0", "year 0 MIN", "year 0 MAX", "year 24 -1");
    }

    private static void mark() {
        Sentence.of(5, "MARK of a YEAR becomes v: what it was.");
        Edge.changes("mark 0 9", 0, "the book");
        Edge.changes("mark 23 0", 8, "the book");
        Edge.changes("mark 4 9", 9);
        Edge.ask(Edge.inUse(), "mark 23 9 = 8", "mark 23 0 = 9", "yearOf 23 1 = 0", "yearOf 23 0 = -9", "mark 8 1 = 4", "yearOf 8 0 = 9");
        Sentence.of(5, "BAD.");
        Edge.refused(-1, "mark -1 0", "mark 24 0", "mark 0 -1", "mark 0 10", "mark MIN 0", "mark MAX 0", "mark 0 MIN", "mark 0 MAX");
    }

    private static void yearOf() {
        Sentence.of(6, "Of a YEAR: what = 0 VILLAGE (-9: lost), 1 MARK.");
        Edge.ask(Edge.inUse(), "yearOf 0 0 = 3", "yearOf 0 1 = 0", "yearOf 23 0 = -9", "yearOf 23 1 = 8", "yearOf 8 0 = 9", "yearOf 8 1 = 4");
        Edge.reads("yearOf 8 0", "yearOf 8 1");
        Sentence.of(6, "BAD.");
        Edge.refused(-1, "yearOf -1 0", "yearOf 24 0", "yearOf 0 -1", "yearOf 0 2", "yearOf MIN 0", "yearOf MAX 0", "yearOf 0 MIN", "yearOf 0 MAX");
    }

    private static void villagesBecome() {
        Sentence.of(7, "VILLAGES become n: how many there were.");
        Edge.changes("villages 2", 7, "the book");
        Edge.changes("villages 10", 7, "the book");
        Edge.changes("villages 7", 7);
        Sentence.of(7, "BAD.");
        Edge.refused(-1, "villages 1", "villages 11", "villages 0", "villages -2", "villages MIN", "villages MAX");
    }
}
