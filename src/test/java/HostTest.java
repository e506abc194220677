// Promises 32 to 41: sheet, put, item, shelf, taken, act, trace, many, keep, again.
public final class HostTest {
    public static void main(String[] args) {
        sheet();
        put();
        item();
        shelf();
        shelfRefused();
        taken();
        act();
        actParts();
        trace();
        many();
        keep();
        again();
        Due.end("HostTest");
    }

    private static void sheet() {
        FairNext x = new FairNext();
        for (int sort = 0; sort < 4; sort++) {
            Due.is("32", x.sheet(sort, sort, 40), 1);
            Due.is("32 all 0", x.item(sort, sort, 39), 0);
        }
        x.put(0, 3, 5);
        x.put(0, 0, 6);
        Due.is("32 anew", x.sheet(0, 0, 4), 1);
        Due.is("32 all 0", x.item(0, 0, 3), 0);
        Due.is("32 all 0", x.item(0, 0, 0), 0);
        Due.is("32 of 4", x.item(0, 0, 4), -12);
        Due.is("32 missing", x.sheet(0, -1, -77), 1);
        Due.is("32 missing", x.item(0, 0, 0), -11);
        Due.is("32 missing", x.sheet(0, -1, 77), 1);
        Due.is("32 of none", x.sheet(0, 2, 0), 1);
        Due.is("32 of none", x.item(0, 2, 0), -12);
        Due.is("32 BAD", x.sheet(-1, 0, 1), -1);
        Due.is("32 BAD", x.sheet(4, 0, 1), -1);
        Due.is("32 BAD", x.sheet(1, -2, 1), -1);
        Due.is("32 BAD", x.sheet(1, 4, 1), -1);
        Due.is("32 BAD", x.sheet(1, 0, 41), -1);
        Due.is("32 BAD is first", x.sheet(4, 0, -1), -1);
        Due.is("32 below 0", x.sheet(1, 0, -1), -14);
        Due.is("32 below 0", x.sheet(1, 0, Integer.MIN_VALUE), -14);
        Due.is("32 as it was", x.item(1, 1, 39), 0);
    }

    private static void put() {
        FairNext x = new FairNext();
        int[] values = {127, 128, -129, 32768, -32769, 65536, Integer.MAX_VALUE, Integer.MIN_VALUE, -1};
        for (int sort = 0; sort < 4; sort++) {
            x.sheet(sort, sort, 2);
            for (int v : values) {
                int want = sort == 0 ? (byte) v : sort == 1 ? (short) v : v;
                Due.is("33", x.put(sort, 1, v), 1);
                Due.is("33 sort " + sort + ", " + v, x.item(sort, sort, 1), want);
                Due.is("33 beside it", x.item(sort, sort, 0), 0);
            }
        }
        Due.is("33 BAD", x.put(-1, 0, 1), -1);
        Due.is("33 BAD", x.put(4, 0, 1), -1);
        Due.is("33 outside", x.put(0, 2, 1), -12);
        Due.is("33 outside", x.put(0, -1, 1), -12);
        x.sheet(0, -1, 0);
        Due.is("33 missing", x.put(0, 9, 1), -11);
    }

    private static void item() {
        FairNext x = new FairNext();
        x.sheet(0, 3, 3);
        x.put(0, 0, -12);
        x.put(0, 2, 6);
        Due.is("34", x.item(0, 3, 0), -12);
        Due.is("34", x.item(0, 3, 2), 6);
        Due.is("34 BAD", x.item(-1, 3, 0), -1);
        Due.is("34 BAD", x.item(4, 3, 0), -1);
        Due.is("34 BAD", x.item(0, -1, 0), -1);
        Due.is("34 BAD", x.item(0, 4, 0), -1);
        Due.is("34 BAD is first", x.item(1, 4, 0), -1);
        Due.is("34 missing", x.item(1, 0, 0), -11);
        Due.is("34 of another sort", x.item(0, 2, 9), -13);
        Due.is("34 outside", x.item(0, 3, 3), -12);
        Due.is("34 outside", x.item(0, 3, -1), -12);
    }

    private static void shelf() {
        FairNext x = Due.of("rule 0 0 1;line 0 0 1;");
        Due.is("35 a RULE", x.shelf(0, 0, 1), 1);
        Due.is("35 a RULE", x.taken(0, 1), 1);
        x.drop(0);
        Due.is("35 no such one any more", x.taken(0, 1), -11);
        x.hold(2, 0, 0, 1);
        Due.is("35 by its number", x.taken(0, 2), 1);
        x.sheet(2, 1, 7);
        Due.is("35 a row", x.shelf(3, 1, 2), 1);
        Due.is("35 a row", x.taken(3, 11), 7);
        x.sheet(2, 0, 3);
        Due.is("35 the row that it was", x.taken(3, 11), 7);
        Due.is("35 the row that it was", x.taken(3, 10), -13);
        x.sheet(2, -1, 0);
        Due.is("35 the row that it was", x.taken(3, 11), 7);
        Due.is("35 a missing row", x.shelf(3, 1, 2), 1);
        Due.is("35 a missing row", x.taken(3, 11), -11);
        Due.is("35 nothing", x.shelf(0, 2, -55), 1);
        Due.is("35 nothing", x.taken(0, 2), -11);
        x.sheet(1, 2, 0);
        Due.is("35 a row of none", x.shelf(0, 1, 1), 1);
        Due.is("35 a row of none", x.taken(0, 12), 0);
        Due.is("35 a RULE instead", x.shelf(0, 0, 0), 1);
        Due.is("35 a RULE instead", x.taken(0, 12), -13);
        Due.is("35 a row instead", x.shelf(0, 1, 1), 1);
        Due.is("35 a row instead", x.taken(0, 0), -13);
        x.shelf(0, 0, 0);
        x.drop(0);
        x.drop(0);
        Due.is("35 the row came away", x.taken(0, 12), -11);
        Due.is("35 the last of each", x.sheet(3, 1, 2), 1);
        Due.is("35 the last of each", x.shelf(3, 1, 3), 1);
        Due.is("35 the last of each", x.taken(3, 11), 2);
    }

    private static void shelfRefused() {
        FairNext x = Due.of("rule 0 0 1;");
        x.shelf(0, 0, 0);
        Due.is("35 BAD", x.shelf(-1, 0, 0), -1);
        Due.is("35 BAD", x.shelf(4, 0, 0), -1);
        Due.is("35 BAD", x.shelf(0, -1, 0), -1);
        Due.is("35 BAD", x.shelf(0, 3, 0), -1);
        Due.is("35 BAD", x.shelf(0, 0, 1), -1);
        Due.is("35 BAD", x.shelf(0, 0, -1), -1);
        Due.is("35 BAD", x.shelf(0, 1, 4), -1);
        Due.is("35 BAD", x.shelf(0, 1, -1), -1);
        Due.is("35 as it was", x.taken(0, 0), 0);
    }

    private static void taken() {
        FairNext x = Due.of("rule 0 0 1;line 0 0 1;back 0 0 1;table 0 0 1;marked 0 0 1;turned 0 0 1;");
        // for each KIND the KINDS that it can be taken for
        int[] under = {1, 3, 7, 9, 19, 39};
        for (int kind = 0; kind < 6; kind++) {
            x.shelf(0, 0, kind);
            for (int as = 0; as < 6; as++) {
                Due.is("36 " + kind + " as " + as, x.taken(0, as), (under[kind] >> as & 1) == 1 ? kind : -13);
            }
            for (int as = 10; as < 14; as++) {
                Due.is("36 " + kind + " as " + as, x.taken(0, as), -13);
            }
        }
        for (int sort = 0; sort < 4; sort++) {
            x.sheet(0, sort, 5 + sort);
            x.shelf(0, 1, 0);
            for (int as = 0; as < 14; as++) {
                int want = as > 5 && as < 10 ? -1 : as == sort + 10 ? 5 + sort : -13;
                Due.is("36 sort " + sort + " as " + as, x.taken(0, as), want);
            }
        }
        Due.is("36 BAD", x.taken(0, -1), -1);
        Due.is("36 BAD", x.taken(0, 14), -1);
        Due.is("36 BAD", x.taken(-1, 0), -1);
        Due.is("36 BAD", x.taken(4, 0), -1);
        Due.is("36 BAD is first", x.taken(1, 6), -1);
        Due.is("36 nothing", x.taken(1, 10), -11);
    }

    // Each KIND is RULE 2 with A 4, x is 7; what each ACT answers and the bodies it runs.
    private static void act() {
        ran(0, 0, 9, 10);
        ran(0, 1, 18, 11, 10);
        ran(0, 2, 3, 12);
        ran(0, 3, 22, 13, 11, 10);
        ran(1, 1, 14, 20, 11, 10);
        ran(1, 0, 9, 10);
        ran(1, 2, 3, 12);
        ran(1, 3, 10, 13, 20, 11, 10);
        ran(2, 0, -9, 40, 10);
        ran(2, 1, -26, 41, 20, 11, 40, 10, 40, 10);
        ran(2, 2, 3, 12);
        ran(2, 3, -30, 13, 41, 20, 11, 40, 10, 40, 10);
        ran(3, 0, 27, 30, 10);
        ran(3, 1, 54, 11, 30, 10);
        ran(3, 2, 3, 12);
        ran(3, 3, 51, 31, 13, 11, 30, 10, 12);
        ran(4, 0, 7, 51, 10);
        ran(4, 1, 10, 20, 11, 51, 10);
        ran(4, 2, 5, 50, 12);
        ran(4, 3, 14, 13, 20, 11, 51, 10);
        ran(5, 0, -9, 40, 10);
        ran(5, 1, -26, 41, 20, 11, 40, 10, 40, 10);
        ran(5, 2, -3, 61, 12, 40, 10);
        ran(5, 3, -60, 60, 13, 41, 20, 11, 40, 10, 40, 10);
        FairNext marked = third(4, 4);
        Due.is("37 10 by 2, less its bit", marked.act(0, 2, 8), 4);
        marked.shelf(3, 0, 2);
        Due.is("37 on the last SHELF", marked.act(3, 0, 7), 7);
        FairNext x = third(0, 4);
        Due.is("37 wraps", x.act(0, 0, Integer.MAX_VALUE), Integer.MIN_VALUE + 1);
        Due.is("37 wraps", x.act(0, 1, 0x40000000), Integer.MIN_VALUE + 4);
        Due.is("37 cut towards 0", x.act(0, 2, -7), -3);
        Due.is("37 by -1", third(0, 1).act(0, 2, Integer.MIN_VALUE), Integer.MIN_VALUE);
        int[][] wrong = {{-1, 0}, {4, 0}, {0, -1}, {0, 4}, {1, 0}, {2, 0}};
        x.sheet(0, 0, 1);
        x.shelf(2, 1, 0);
        for (int[] call : wrong) {
            x.act(0, 0, 0);
            Due.is("37 a TRACE", x.many(6), 1);
            Due.is("37 0", x.act(call[0], call[1], 9), 0);
            Due.is("37 no TRACE", x.many(6), 0);
            Due.is("37 no TRACE", x.trace(0), -3);
        }
        x.drop(2);
        Due.is("37 no such RULE any more", x.act(0, 0, 9), 0);
    }

    private static FairNext third(int kind, int a) {
        FairNext x = Due.of("rule 0 0 1;rule 0 0 1;");
        Due.is("37 held", x.hold(kind, a, 0, 1), 2);
        Due.is("37 on the SHELF", x.shelf(0, 0, 2), 1);
        return x;
    }

    private static void ran(int kind, int act, int want, int... bodies) {
        FairNext x = third(kind, 4);
        Due.is("37 KIND " + kind + " ACT " + act, x.act(0, act, 7), want);
        Due.is("38 bodies of KIND " + kind + " ACT " + act, x.many(6), bodies.length);
        for (int i = 0; i < bodies.length; i++) {
            Due.is("38 KIND " + kind + " ACT " + act + ", " + i, x.trace(i), bodies[i]);
        }
    }

    // With A 2 as the number 2 shares can't part.
    private static void actParts() {
        for (int kind = 0; kind < 6; kind++) {
            Due.is("37 parted by 0", third(kind, 2).act(0, 2, 7), -15);
            Due.is("37 tells of KIND " + kind, third(kind, 2).act(0, 3, 7) == -15 ? 1 : 0, kind == 3 ? 1 : 0);
        }
        FairNext x = third(5, 2);
        Due.is("37 parted by 0", x.act(0, 2, 7), -15);
        Due.is("38 what ran till then", x.many(6), 2);
        Due.is("38 what ran till then", x.trace(0), 61);
        Due.is("38 what ran till then", x.trace(1), 12);
        Due.is("37 acts again", x.act(0, 0, 7), -9);
    }

    private static void trace() {
        FairNext x = third(3, 4);
        Due.is("38 none yet", x.trace(0), -3);
        x.act(0, 0, 1);
        Due.is("38", x.trace(0), 30);
        Due.is("38", x.trace(1), 10);
        Due.is("38 NONE", x.trace(2), -3);
        Due.is("38 NONE", x.trace(-1), -3);
        x.act(0, 2, 1);
        Due.is("38 of the latest", x.trace(0), 12);
        Due.is("38 of the latest", x.trace(1), -3);
    }

    private static void many() {
        FairNext x = Due.of("villages 6;year 3 at 1;year 7 at 2;lost 9 mark 1;rule 0 0 1;line 1 0 1;marked 0 0 2;");
        x.prove(0);
        x.feed(0, 5);
        x.shelf(0, 0, 1);
        x.act(0, 1, 0);
        int[] want = {2, 3, 6, 8, 2, 5, 3};
        for (int what = 0; what < want.length; what++) {
            Due.is("39 " + what, x.many(what), want[what]);
        }
        Due.is("39 BAD", x.many(-1), -1);
        Due.is("39 BAD", x.many(7), -1);
        Due.is("39 LAST", Due.of("year 0 at 0;").many(3), 1);
        x.year(23, 0);
        Due.is("39 LAST", x.many(3), 24);
    }

    private static void keep() {
        FairNext x = Due.of("villages 6;year 3 at 1 mark 2;rule 0 3 1;");
        Due.is("40", x.keep(), 1);
        x.year(3, 2);
        x.mark(3, 3);
        x.villages(7);
        x.hold(1, 1, 1, 1);
        Due.is("40 the latest", x.keep(), 1);
        x.year(3, 4);
        x.mark(3, 5);
        x.villages(8);
        x.drop(0);
        Due.is("41", x.again(), 1);
        Due.is("41 VILLAGE", x.yearOf(3, 0), 2);
        Due.is("41 MARK", x.yearOf(3, 1), 3);
        Due.is("41 VILLAGES", x.many(2), 7);
        Due.is("41 RULES", x.many(1), 2);
        Due.is("41 RULES", x.ruleOf(0, 2), 3);
        Due.is("41 RULES", x.ruleOf(1, 0), 1);
    }

    private static void again() {
        FairNext x = new FairNext();
        Due.is("41 NONE", x.again(), -3);
        x.seed(9);
        x.year(1, 1);
        x.hold(0, 0, 1, 1);
        x.keep();
        x.seed(10);
        Due.is("41", Due.read(x, "year 2 at 2;year 3 at 3;line 0 0 1;"), 2);
        x.prove(0);
        x.feed(0, 3);
        Due.is("41", x.again(), 1);
        Due.is("41 ROWS stay", x.many(4), 2);
        Due.is("41 THE TAPE stays", x.many(5), 3);
        Due.is("41 z", x.seed(11), 9);
        x.year(1, 5);
        x.drop(0);
        Due.is("41 it stays", x.again(), 1);
        Due.is("41 it stays", x.yearOf(1, 0), 1);
        Due.is("41 it stays", x.many(1), 1);
        Due.is("41 it stays", x.seed(0), 9);
        x.year(1, -1);
        x.keep();
        Due.is("41 none told", x.again(), 0);
    }
}
