// Promises 27 to 31: prove, row, alterRow, judge, years.
public final class RowsTest {
    public static void main(String[] args) {
        prove();
        row();
        alterRow();
        judge();
        years();
        yearsRefused();
        Due.end("RowsTest");
    }

    private static FairNext told() {
        return Due.of("year 0 at 1;year 2 at 5;year 3 at 8;line 2 1 1;back 1 3 1;rule 0 0 1;");
    }

    private static void prove() {
        FairNext x = told();
        Due.is("27", x.prove(0), 3);
        Due.is("27", x.many(4), 3);
        Due.is("27 no YEARS", Due.of("rule 0 0 1;").prove(0), 0);
        Due.is("27 BAD", x.prove(3), -1);
        Due.is("27 BAD", x.prove(-1), -1);
        Due.is("27 ROWS stay", x.many(4), 3);
        for (int year = 0; year < 24; year++) {
            x.year(year, 1);
        }
        Due.is("27 all", x.prove(0), 24);
        Due.is("27 the last", x.row(23, 0), 23);
    }

    private static void row() {
        FairNext x = told();
        Due.is("28 none yet", x.row(0, 0), -99);
        x.prove(0);
        int[] line = {0, 1, 1, 2, 5, 1, 3, 7, 0};
        for (int i = 0; i < 9; i++) {
            Due.is("28 line, " + i, x.row(i / 3, i % 3), line[i]);
        }
        x.prove(1);
        int[] back = {0, -9, 0, 2, -9, 0, 3, 8, 1};
        for (int i = 0; i < 9; i++) {
            Due.is("28 back, " + i, x.row(i / 3, i % 3), back[i]);
        }
        x.year(0, 4);
        Due.is("28 ROWS stay as they were", x.row(0, 1), -9);
        Due.is("28", x.row(3, 0), -99);
        Due.is("28", x.row(-1, 0), -99);
        Due.is("28", x.row(0, 3), -99);
        Due.is("28", x.row(0, -1), -99);
        Due.is("28", x.row(Integer.MAX_VALUE, 0), -99);
        x.drop(0);
        Due.is("28 the RULE is gone, ROWS stay", x.row(2, 1), 8);
    }

    private static void alterRow() {
        FairNext x = told();
        Due.is("29 none yet", x.alterRow(0, 0, 1), -99);
        x.prove(0);
        Due.is("29", x.alterRow(2, 1, Integer.MIN_VALUE), 7);
        Due.is("29", x.alterRow(2, 1, 7), Integer.MIN_VALUE);
        Due.is("29", x.alterRow(0, 0, 9), 0);
        Due.is("29", x.alterRow(0, 2, 3), 1);
        Due.is("29", x.row(0, 0), 9);
        Due.is("29", x.row(0, 2), 3);
        Due.is("29", x.alterRow(3, 0, 1), -99);
        Due.is("29", x.alterRow(-1, 0, 1), -99);
        Due.is("29", x.alterRow(0, 3, 1), -99);
        Due.is("29", x.alterRow(0, -1, 1), -99);
        Due.is("29 THE BOOK stays", x.many(0), 3);
    }

    private static void judge() {
        FairNext x = told();
        Due.is("30 fewer", x.judge(0), 222);
        x.prove(0);
        Due.is("30 right", x.judge(0), 0);
        Due.is("30 of another RULE", x.judge(1), 1);
        for (int what = 0; what < 3; what++) {
            int was = x.alterRow(1, what, 77);
            Due.is("30 altered " + what, x.judge(0), 2);
            x.alterRow(1, what, was);
        }
        Due.is("30 right again", x.judge(0), 0);
        x.year(5, 1);
        Due.is("30 all are right, but fewer", x.judge(0), 222);
        x.alterRow(2, 0, 4);
        Due.is("30 wrong goes ahead of fewer", x.judge(0), 3);
        x.alterRow(2, 0, 3);
        x.year(5, -1);
        x.year(3, -1);
        Due.is("30 one too many", x.judge(0), 3);
        x.year(2, -1);
        x.year(0, -1);
        Due.is("30 all too many", x.judge(0), 1);
        Due.is("30 BAD", x.judge(3), -1);
        Due.is("30 BAD", x.judge(-1), -1);
        Due.is("30 none due, none there", Due.of("rule 0 0 1;").judge(0), 0);
    }

    private static void years() {
        FairNext x = new FairNext();
        x.sheet(1, 0, 6);
        int[] items = {0, 9, 10, -1, 5, 265};
        for (int i = 0; i < 6; i++) {
            x.put(1, i, items[i]);
        }
        x.year(4, 7);
        x.mark(4, 8);
        Due.is("31", x.years(1, 0, 2, 6), 4);
        int[] want = {-9, -9, 0, 9, -9, -9, 5, 9, -9};
        for (int year = 0; year < want.length; year++) {
            Due.is("31 YEAR " + year, x.yearOf(year, 0), want[year]);
        }
        Due.is("31 MARKS stay", x.yearOf(4, 1), 8);
        Due.is("31 from i on", x.years(1, 4, 0, 1), 1);
        Due.is("31 from i on", x.yearOf(0, 0), 5);
        Due.is("31 none", x.years(1, 6, 23, 0), 0);
        x.sheet(2, 0, 40);
        Due.is("31 all", x.years(2, 16, 0, 24), 24);
        Due.is("31 all", x.many(0), 24);
    }

    private static void yearsRefused() {
        FairNext x = new FairNext();
        x.sheet(0, 0, 3);
        x.sheet(1, 1, 3);
        Due.is("31 BAD", x.years(-1, 0, 0, 0), -1);
        Due.is("31 BAD", x.years(4, 0, 0, 0), -1);
        Due.is("31 BAD", x.years(0, 0, -1, 1), -1);
        Due.is("31 BAD", x.years(0, 0, 24, 0), -1);
        Due.is("31 BAD", x.years(0, 0, 0, -1), -1);
        Due.is("31 BAD", x.years(0, 0, 0, 25), -1);
        Due.is("31 BAD", x.years(0, 0, 22, 3), -1);
        Due.is("31 BAD is first", x.years(3, 0, 22, 3), -1);
        Due.is("31 missing", x.years(3, 9, 0, 1), -11);
        Due.is("31 of another sort", x.years(1, 9, 0, 1), -13);
        Due.is("31 outside", x.years(0, -1, 0, 1), -12);
        Due.is("31 outside", x.years(0, 1, 0, 3), -12);
        Due.is("31 outside", x.years(0, 4, 0, 0), -12);
        Due.is("31 outside", x.years(0, Integer.MAX_VALUE, 0, 1), -12);
        Due.is("31 nothing told", x.many(0), 0);
    }
}
