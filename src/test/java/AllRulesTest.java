// Promises 17 to 26: fits, plainest, odds, bet, hard, sure, leave, camp, seed, draw.
public final class AllRulesTest {
    private static final int[][] BAD_WHEN = {{-1, 0}, {100, 0}, {0, -1}, {0, 10},
        {Integer.MIN_VALUE, 0}, {0, Integer.MAX_VALUE}};

    public static void main(String[] args) {
        fits();
        plainest();
        odds();
        bet();
        hard();
        sure();
        leave();
        camp();
        seed();
        draw();
        Due.end("AllRulesTest");
    }

    // With YEAR 0 at 3 alone, rule, line and marked FIT by 0 if B is 3: 20 of each.
    // Of each KIND SHARES are 28 with A 0 and 7 with every other A.
    private static FairNext three() {
        return Due.of("year 0 at 3;");
    }

    private static void fits() {
        FairNext x = three();
        Due.is("17", x.fits(0), 60);
        Due.is("17 one MISS is let pass", x.fits(1), 600);
        Due.is("17", x.fits(9), 600);
        Due.is("17 BAD", x.fits(-1), -1);
        Due.is("17 BAD", x.fits(10), -1);
        for (int year = 0; year < 10; year++) {
            x.year(year, 9);
        }
        // tables miss as many as their K; so do the 4 pairs of A and B with which 9 goes back to 9,
        // and the 5 with which it turns to 9
        Due.is("17 none", x.fits(0), 0);
        Due.is("17 K 1", x.fits(1), 25 + 4 + 5);
        Due.is("17 K 2 too", x.fits(2), 50 + 8 + 10);
    }

    private static void plainest() {
        FairNext x = three();
        int[] want = {0, 0, 3, 1, 2, 0};
        for (int what = 0; what < 6; what++) {
            Due.is("18 what " + what, x.plainest(0, what), want[what]);
        }
        int[] missing = {0, 0, 0, 1, 1, 1};
        for (int what = 0; what < 6; what++) {
            Due.is("18 by 1, what " + what, x.plainest(1, what), missing[what]);
        }
        Due.is("18 BAD", x.plainest(-1, 0), -1);
        Due.is("18 BAD", x.plainest(10, 0), -1);
        Due.is("18 BAD", x.plainest(0, -1), -1);
        Due.is("18 BAD", x.plainest(0, 6), -1);
        x.year(0, 9);
        Due.is("18 NONE", x.plainest(0, 0), -3);
        Due.is("18 BAD is first", x.plainest(0, 6), -1);
        FairNext y = Due.of("year 0 at 3;year 1 at 5;year 2 at 7;");
        int[] line = {1, 2, 3, 1, 3, 0};
        for (int what = 0; what < 6; what++) {
            Due.is("18 line, what " + what, y.plainest(0, what), line[what]);
        }
        // back 1 0 1 misses once too and comes first, but has two WORDS
        FairNext z = Due.of("year 0 at 9;year 1 at 9;year 2 at 9;");
        Due.is("18 fewest WORDS go ahead of order", z.plainest(1, 0), 3);
        Due.is("18 fewest WORDS go ahead of order", z.plainest(1, 5), 1);
    }

    private static void odds() {
        FairNext x = three();
        odds(x, 0, 3, 0, 1, 1);
        odds(x, 0, 2, 0, 0, 1);
        odds(x, 1, 3, 0, 2, 3);
        odds(x, 1, 4, 0, 1, 12);
        odds(x, 1, 7, 0, 1, 12);
        odds(x, 1, 8, 0, 0, 1);
        odds(x, 1, 8, 0, 0, 1);
        odds(x, 99, 3, 0, 2, 3);
        x.villages(3);
        x.year(0, 0);
        odds(x, 0, 9, 0, 0, 1);
        // all say 0 here, each time again
        odds(x, 0, 0, 0, 1, 1);
        odds(x, 0, 0, 0, 1, 1);
        odds(x, 0, 1, 0, 0, 1);
        Due.is("19 BAD", x.odds(0, 10, 0, 0), -1);
        Due.is("19 BAD", x.odds(0, -1, 0, 0), -1);
        Due.is("19 BAD", x.odds(0, 0, 0, 2), -1);
        Due.is("19 BAD", x.odds(0, 0, 0, -1), -1);
        for (int[] bad : BAD_WHEN) {
            Due.is("19 BAD", x.odds(bad[0], 0, bad[1], 0), -1);
        }
        x.year(0, 9);
        Due.is("19 NONE", x.odds(0, 0, 0, 0), -3);
        Due.is("19 NONE", x.odds(0, 0, 0, 1), -3);
        Due.is("19 BAD is first", x.odds(0, 0, 0, 2), -1);
    }

    private static void odds(FairNext x, int year, int village, int m, int above, int below) {
        Due.is("19 above", x.odds(year, village, m, 0), above);
        Due.is("19 below", x.odds(year, village, m, 1), below);
    }

    private static void bet() {
        FairNext x = three();
        Due.is("20", x.bet(1, 0), 3);
        Due.is("20 by 1", x.bet(0, 1), 0);
        for (int[] bad : BAD_WHEN) {
            Due.is("20 BAD", x.bet(bad[0], bad[1]), -1);
        }
        Due.is("20 of several the least", twoAlike().bet(20, 1), 1);
        Due.is("20 B is 0, 2, 4", Due.of("villages 2;").bet(0, 0), 0);
        x.year(0, 9);
        Due.is("20 NONE", x.bet(0, 0), -3);
    }

    // By 1 rule, line and marked FIT with B 1 and with B 2, 60 of each; no other does.
    private static FairNext twoAlike() {
        return Due.of("year 0 at 1;year 10 at 2;");
    }

    private static void hard() {
        FairNext x = three();
        Due.is("21 of several the least", x.hard(1, 0), 0);
        Due.is("21 new", new FairNext().hard(5, 0), 6);
        FairNext y = Due.of("villages 4;");
        Due.is("21 B is 0 and 4: 0 has most", y.hard(0, 0), 1);
        y.mark(0, 1);
        // marked says 1 (B 0, 4), 2, 3, 0: with rule and line 1 has more now
        Due.is("21", y.hard(0, 0), 2);
        for (int[] bad : BAD_WHEN) {
            Due.is("21 BAD", x.hard(bad[0], bad[1]), -1);
        }
        x.year(0, 9);
        Due.is("21 NONE", x.hard(0, 0), -3);
    }

    private static void sure() {
        FairNext x = three();
        Due.is("22 in YEAR 0", x.sure(0, 0), 3);
        Due.is("22 in YEAR 10 A counts for nothing", x.sure(10, 0), 3);
        Due.is("22 several", x.sure(1, 0), -3);
        Due.is("22 VILLAGE 0", Due.of("year 0 at 0;").sure(0, 0), 0);
        Due.is("22 several alike", twoAlike().sure(20, 1), -3);
        for (int[] bad : BAD_WHEN) {
            Due.is("22 BAD", x.sure(bad[0], bad[1]), -1);
        }
        x.year(0, 9);
        Due.is("22 nothing FITS", x.sure(0, 0), -3);
    }

    private static void leave() {
        Due.is("23 no YEARS", new FairNext().leave(0), -3);
        FairNext x = Due.of("year 0 at 9;");
        Due.is("23 any that FITS is fewer", x.leave(0), 0);
        Due.is("23 none is fewer than one WORD", x.leave(1), -3);
        Due.is("23 THE BOOK stays", x.yearOf(0, 0), 9);
        Due.is("23 of several the first", Due.of("year 0 at 1;year 1 at 2;").leave(0), 0);
        Due.is("23 lost 1", Due.of("year 0 at 1;year 1 at 9;").leave(0), 1);
        // without 0 line 1 4 1 says 9 in YEAR 5
        Due.is("23 lost 0", Due.of("year 0 at 9;year 5 at 9;").leave(0), 0);
        // without 0 rule 1 is left (2 WORDS), without 1 rule 0 (1 WORD)
        Due.is("23 the fewest", Due.of("year 0 at 0;year 1 at 1;year 2 at 0;").leave(0), 1);
        Due.is("23 the line stays", Due.of("year 0 at 1;year 1 at 2;year 2 at 3;").leave(0), -3);
        Due.is("23 none", Due.of("year 0 at 9;year 1 at 8;year 2 at 9;").leave(0), -3);
        Due.is("23 BAD", x.leave(-1), -1);
        Due.is("23 BAD", x.leave(10), -1);
    }

    private static void camp() {
        FairNext x = three();
        Due.is("24", x.camp(1, 0), 3);
        Due.is("24 new", new FairNext().camp(0, 0), 0);
        Due.is("24 of several the least", twoAlike().camp(20, 1), 1);
        // by 0 line 1 1 and marked 1 1 FIT alone; in YEAR 7 they say 8 and 2: all from 8 over 0 to 2 are alike
        FairNext y = Due.of("year 0 at 1;year 1 at 2;lost 7 mark 4;");
        Due.is("24 the shorter way round", y.camp(7, 0), 0);
        y.mark(7, 6);
        Due.is("24 between 4 and 8", y.camp(7, 0), 4);
        // of 9 VILLAGES line says 8 and marked 0
        y.villages(9);
        y.mark(7, 1);
        Due.is("24 round 9", y.camp(7, 0), 0);
        for (int[] bad : BAD_WHEN) {
            Due.is("24 BAD", x.camp(bad[0], bad[1]), -1);
        }
        x.year(0, 9);
        Due.is("24 NONE", x.camp(0, 0), -3);
    }

    private static void seed() {
        FairNext x = new FairNext();
        Due.is("25", x.seed(Integer.MIN_VALUE), 1);
        Due.is("25", x.seed(-1), Integer.MIN_VALUE);
        Due.is("25", x.seed(0), -1);
    }

    private static void draw() {
        FairNext x = three();
        for (int[] bad : BAD_WHEN) {
            Due.is("26 BAD", x.draw(bad[0], bad[1]), -1);
        }
        Due.is("26 z stays when BAD", x.seed(1), 1);
        // of 168 SHARES: 0 to 55 rule: 3; line 56 to 83: 3, then 7 each for 4, 5, 6, 7; marked likewise from 112
        int[] at = new int[168];
        for (int i = 0; i < 168; i++) {
            int inKind = i % 56;
            at[i] = i < 56 || inKind < 28 ? 3 : 3 + inKind / 7 - 3;
        }
        FairNext y = new FairNext();
        // from 70 on z falls on 57 of all SHARES, which is still of the first RULE with its 64
        y.seed(70);
        Due.is("26 the first RULE", y.draw(0, 0), 0);
        int z = 1;
        for (int i = 0; i < 300; i++) {
            z = z * 1103515245 + 12345;
            Due.is("26 draw " + i, x.draw(1, 0), at[(z >>> 16) % 168]);
        }
        Due.is("26 z", x.seed(5), z);
        x.year(0, 9);
        Due.is("26 NONE", x.draw(1, 0), -3);
        Due.is("26 z stays when NONE", x.seed(0), 5);
    }
}
