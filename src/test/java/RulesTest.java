// Promises 8 to 16: hold, ruleOf, drop, says, run, believed, on, here, never.
public final class RulesTest {
    private static final int RULE = 0, LINE = 1, BACK = 2, TABLE = 3, MARKED = 4, TURNED = 5;

    public static void main(String[] args) {
        hold();
        ruleOf();
        drop();
        says();
        saysNothing();
        run();
        believed();
        on();
        here();
        never();
        Due.end("RulesTest");
    }

    private static void hold() {
        FairNext x = new FairNext();
        Due.is("8 least", x.hold(0, 0, 0, 1), 0);
        Due.is("8 most", x.hold(5, 4, 4, 4), 1);
        int[] bad = {-1, 0, 0, 1, 6, 0, 0, 1, 0, -1, 0, 1, 0, 5, 0, 1, 0, 0, -1, 1, 0, 0, 5, 1, 0, 0, 0, 0, 0, 0, 0, 5};
        for (int i = 0; i < bad.length; i += 4) {
            Due.is("8 BAD", x.hold(bad[i], bad[i + 1], bad[i + 2], bad[i + 3]), -1);
        }
        Due.is("8 none more", x.many(1), 2);
        for (int i = 2; i < 6; i++) {
            Due.is("8", x.hold(i, 0, 0, 1), i);
        }
        Due.is("8 FULL", x.hold(0, 0, 0, 1), -2);
        Due.is("8 BAD is first", x.hold(0, 0, 0, 5), -1);
        Due.is("8 six", x.many(1), 6);
        Due.is("8 kept apart", x.ruleOf(1, 1), 4);
    }

    private static void ruleOf() {
        FairNext x = Due.of("year 0 at 1;year 2 at 5;marked 3 2 4;rule 0 0 1;line 0 1 3;turned 2 0 1;");
        int[] want = {4, 3, 2, 4, 4, 2, 0, 0, 0, 1, 1, 2, 1, 0, 1, 3, 3, 1, 5, 2, 0, 1, 2, 2};
        for (int i = 0; i < want.length; i++) {
            Due.is("9 RULE " + i / 6 + ", " + i % 6, x.ruleOf(i / 6, i % 6), want[i]);
        }
        Due.is("9 BAD", x.ruleOf(-1, 0), -1);
        Due.is("9 BAD", x.ruleOf(4, 0), -1);
        Due.is("9 BAD", x.ruleOf(0, -1), -1);
        Due.is("9 BAD", x.ruleOf(0, 6), -1);
        for (int year = 0; year < 24; year++) {
            x.year(year, 9);
        }
        Due.is("9 all missed", x.ruleOf(1, 5), 24);
    }

    private static void drop() {
        FairNext x = Due.of("rule 0 0 1;line 0 1 2;back 0 2 3;table 0 3 4;");
        Due.is("10 BAD", x.drop(4), -1);
        Due.is("10 BAD", x.drop(-1), -1);
        Due.is("10 a middle one", x.drop(1), 3);
        Due.is("10 as it was", x.ruleOf(0, 0), 0);
        Due.is("10 one less", x.ruleOf(1, 0), 2);
        Due.is("10 one less", x.ruleOf(2, 3), 4);
        Due.is("10 gone", x.ruleOf(3, 0), -1);
        Due.is("10 the last", x.drop(2), 2);
        Due.is("10 the first", x.drop(0), 1);
        Due.is("10 left", x.ruleOf(0, 2), 2);
        Due.is("10", x.drop(0), 0);
        Due.is("10 none", x.drop(0), -1);
        FairNext six = Due.of("rule 0 0 1;rule 0 1 1;rule 0 2 1;rule 0 3 1;rule 0 4 1;line 0 0 1;");
        Due.is("10 of six", six.drop(2), 5);
        int[] left = {0, 1, 3, 4, 0};
        for (int i = 0; i < 5; i++) {
            Due.is("10 of six, B of " + i, six.ruleOf(i, 2), left[i]);
        }
        Due.is("10 of six, the last", six.ruleOf(4, 0), 1);
        Due.is("10 held again", x.hold(5, 1, 1, 1), 0);
        Due.is("10 held again", x.ruleOf(0, 0), 5);
    }

    private static void says() {
        FairNext x = Due.of("villages 7;year 0 at 9 mark 5;year 1 at 2;year 3 at 4 mark 6;lost 5 mark 9;"
            + "rule 3 4 2;line 3 4 2;back 3 1 2;table 1 1 2;marked 3 4 2;turned 3 1 2;");
        says(x, RULE, 0, 4);
        says(x, RULE, 99, 4);
        says(x, LINE, 0, 4);
        says(x, LINE, 5, 5);
        says(x, LINE, 99, 0);
        says(x, BACK, 2, 0);
        says(x, BACK, 3, 0);
        says(x, BACK, 5, 6);
        says(x, TABLE, 2, 2);
        says(x, TABLE, 4, 2);
        says(x, TABLE, 98, 2);
        says(x, TABLE, 99, 4);
        says(x, TABLE, 3, 2);
        says(x, MARKED, 0, 2);
        says(x, MARKED, 3, 5);
        says(x, MARKED, 5, 0);
        says(x, MARKED, 24, 6);
        says(x, TURNED, 2, 2);
        says(x, TURNED, 4, -9);
        Due.is("11 BAD", x.says(6, 0), -1);
        Due.is("11 BAD", x.says(-1, 0), -1);
        Due.is("11 BAD", x.says(0, -1), -1);
        Due.is("11 BAD", x.says(0, 100), -1);
    }

    private static void saysNothing() {
        FairNext x = Due.of("year 0 at 9;year 2 at 8;year 23 at 7;back 0 3 1;table 0 0 3;turned 0 3 2;back 0 3 4;");
        says(x, 0, 0, -9);
        says(x, 0, 1, 3);
        says(x, 0, 2, -9);
        says(x, 0, 3, 3);
        says(x, 0, 24, 3);
        says(x, 0, 25, -9);
        says(x, 0, 99, -9);
        says(x, 1, 0, -9);
        says(x, 1, 2, -9);
        says(x, 1, 3, 9);
        says(x, 1, 5, 8);
        says(x, 1, 4, -9);
        says(x, 1, 26, 7);
        says(x, 2, 1, -9);
        says(x, 2, 2, -9);
        says(x, 2, 4, -9);
        says(x, 3, 4, 3);
        says(x, 3, 27, 3);
        says(x, 3, 28, -9);
    }

    private static void says(FairNext x, int rule, int year, int want) {
        Due.is("11 says(" + rule + ", " + year + ")", x.says(rule, year), want);
    }

    // line 1 0 says the YEAR; right in 0, 2, 3, wrong in 5, right in 7, 8, 9, wrong in 11
    private static final String STEPS = "year 0 at 0;year 2 at 2;year 3 at 3;year 5 at 6;year 7 at 7;year 8 at 8;"
        + "year 9 at 9;year 11 at 2;line 1 0 1;rule 0 4 1;back 1 1 1;";

    private static void run() {
        FairNext x = Due.of(STEPS);
        Due.is("12", x.run(0), 3);
        Due.is("12 never right", x.run(1), 0);
        Due.is("12 nothing said is not as told", x.run(2), 2);
        Due.is("12", x.year(5, 5), 6);
        Due.is("12 over lost ones", x.run(0), 7);
        Due.is("12 BAD", x.run(3), -1);
        Due.is("12 BAD", x.run(-1), -1);
        Due.is("12 no YEARS", Due.of("rule 0 0 1;").run(0), 0);
    }

    private static void believed() {
        FairNext x = Due.of(STEPS);
        Due.is("13", x.believed(0, 1), 0);
        Due.is("13", x.believed(0, 2), 2);
        Due.is("13", x.believed(0, 3), 3);
        Due.is("13 NONE", x.believed(0, 4), -3);
        Due.is("13 NONE", x.believed(1, 1), -3);
        Due.is("13", x.believed(2, 1), 3);
        Due.is("13", x.believed(2, 2), 9);
        Due.is("13 BAD", x.believed(0, 0), -1);
        Due.is("13 BAD", x.believed(0, 10), -1);
        Due.is("13 BAD", x.believed(3, 1), -1);
        Due.is("13 BAD", x.believed(-1, 1), -1);
        FairNext y = Due.of("rule 0 1 1;");
        for (int year = 3; year < 13; year++) {
            y.year(year, 1);
        }
        Due.is("13 nine", y.believed(0, 9), 11);
    }

    private static void on() {
        FairNext x = Due.of("villages 5;year 0 at 1;year 2 at 3;year 3 at 9;lost 4 mark 3;lost 23 mark 2;"
            + "back 1 1 1;table 0 0 2;marked 1 0 1;turned 1 0 3;back 1 0 3;");
        Due.is("14 from LAST", x.on(0, 4), 0);
        Due.is("14 its own", x.on(0, 5), 1);
        Due.is("14 its own", x.on(0, 99), 0);
        Due.is("14 table", x.on(1, 4), 3);
        Due.is("14 table", x.on(1, 5), 4);
        Due.is("14 table", x.on(1, 7), 4);
        Due.is("14 table", x.on(1, 98), 3);
        Due.is("14 MARK", x.on(2, 4), 2);
        Due.is("14 MARK", x.on(2, 23), 0);
        Due.is("14 no MARK", x.on(2, 24), 4);
        Due.is("14 nothing", x.on(3, 4), -9);
        Due.is("14 nothing", x.on(3, 5), -9);
        Due.is("14 stands no more", x.on(4, 4), -9);
        Due.is("14 stands", x.on(4, 5), 3);
        Due.is("14 stands no more", x.on(4, 7), -9);
        Due.is("14 stands", x.on(4, 8), 3);
        Due.is("14 ahead of LAST", x.on(0, 3), -1);
        Due.is("14 BAD", x.on(0, 100), -1);
        Due.is("14 BAD", x.on(5, 50), -1);
        Due.is("14 BAD", x.on(-1, 50), -1);
        Due.is("14 THE BOOK stays", x.many(0), 3);
        Due.is("14 LAST 24", x.year(23, 1), -9);
        Due.is("14 LAST 24", x.on(0, 24), 2);
        Due.is("14 LAST 24", x.on(0, 23), -1);
        Due.is("14 LAST 0", Due.of("line 2 1 1;").on(0, 0), 1);
    }

    private static void here() {
        FairNext x = Due.of("villages 6;year 1 at 2;line 2 1 1;back 1 4 1;");
        Due.is("15", x.here(0, 1, 0), 3);
        Due.is("15", x.here(0, 5, 0), 2);
        Due.is("15", x.here(0, 5, 2), 2);
        Due.is("15", x.here(0, 5, 3), 5);
        Due.is("15", x.here(0, 1, 99), 99);
        Due.is("15 NONE", x.here(0, 5, 99), -3);
        Due.is("15 NONE", x.here(0, 0, 0), -3);
        Due.is("15 NONE beyond N", x.here(0, 9, 0), -3);
        Due.is("15", x.here(1, 0, 0), 2);
        Due.is("15", x.here(1, 4, 0), 3);
        Due.is("15", x.here(1, 2, 0), 4);
        Due.is("15 BAD", x.here(0, -1, 0), -1);
        Due.is("15 BAD", x.here(0, 10, 0), -1);
        Due.is("15 BAD", x.here(0, 0, -1), -1);
        Due.is("15 BAD", x.here(0, 0, 100), -1);
        Due.is("15 BAD", x.here(2, 0, 0), -1);
        Due.is("15 BAD", x.here(-1, 0, 0), -1);
    }

    private static void never() {
        FairNext x = Due.of("villages 6;year 1 at 2;line 2 1 1;back 1 4 1;rule 0 3 1;back 1 0 4;");
        Due.is("16 odd ones come", x.never(0), 1 + 4 + 16);
        Due.is("16 even ones come", x.never(1), 2 + 8 + 32);
        Due.is("16 one comes", x.never(2), 63 - 8);
        Due.is("16 one comes", x.never(3), 63 - 4);
        Due.is("16 all N", x.villages(10), 6);
        Due.is("16 all N", x.never(2), 1023 - 8);
        Due.is("16 nothing comes", Due.of("back 1 1 1;").never(0), 1023);
        Due.is("16 BAD", x.never(4), -1);
        Due.is("16 BAD", x.never(-1), -1);
    }
}
