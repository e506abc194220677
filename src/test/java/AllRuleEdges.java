// The edges of ALL RULES, as "Terms" and the promises 17 to 26 name them.
final class AllRuleEdges {
    private AllRuleEdges() {
    }

    static void all() {
        order();
        fit();
        plain();
        share();
        oddsOf();
        greatest();
        leastOdds();
        oneAlone();
        leftOut();
        noneLeftOut();
        leastFar();
        drawn();
        fits();
        plainest();
        odds();
        bet();
        hard();
        sure();
        leave();
        camp();
        seed();
        draw();
    }

    // YEARS 0 to 9 are told at 9. By 1 there FIT a table, four backs and five turned, each with K 1;
    // in YEAR 10 they say 9, in YEAR 11 and behind it the tables alone say 9, in YEAR 0 none says anything.
    private static FairNext nines() {
        FairNext x = new FairNext();
        for (int year = 0; year < 10; year++) {
            Edge.ask(x, "year " + year + " 9 = -9");
        }
        return x;
    }

    // By 1 rule, line and marked FIT with B 1 and with B 2, and no other; in YEAR 20 each half of SHARES says 1 and 2.
    private static FairNext halves() {
        return Edge.asked("year 0 1 = -9", "year 10 2 = -9");
    }

    // By 0 line 1 1 and marked 1 1 FIT alone, with 7 SHARES each; in YEAR 7 they say 8, and 8 and its MARK.
    private static FairNext two(int mark) {
        return Edge.asked("year 0 1 = -9", "year 1 2 = -9", "mark 7 " + mark + " = 0");
    }

    // By 2 back 3 1 2 FITS alone, with one SHARE, and misses two; by 1 none FITS.
    private static FairNext one() {
        FairNext x = new FairNext();
        int[] told = {1, 2, 4, 7, 3, 2, 0, 7, 1, 2, 4, 7};
        for (int year = 0; year < told.length; year++) {
            Edge.ask(x, "year " + year + " " + told[year] + " = -9");
        }
        return x;
    }

    // In YEAR 23 each of ALL RULES says something, and all FIT by 9, as four YEARS are told.
    private static void order() {
        Sentence.of(0, "2 ALL RULES, in order: by KIND, then A, then B, then K (600).");
        int[] told = {0, 7, 4, 9, 2};
        int from = 0;
        for (int kind = 0; kind < 6; kind++) {
            FairNext x = Edge.asked("year 22 7 = -9", "year 21 4 = -9", "year 20 9 = -9", "year 19 2 = -9", "mark 23 5 = 0", "fits 9 = 600");
            for (int rule = 0; rule < 100; rule++) {
                int a = rule / 20;
                int b = rule / 4 % 5;
                int k = rule % 4 + 1;
                int[] says = {b, a * 23 + b, a * told[k] + b, told[k], a * 23 + b + 5, a * told[k] + b + 7};
                int share = 64 >> 2 * ((a > 0 ? 1 : 0) + (b > 0 ? 1 : 0) + (k > 1 ? 1 : 0));
                drawnAt(x, from, 23, 9, says[kind] % 10);
                drawnAt(x, from + share - 1, 23, 9, says[kind] % 10);
                from += share;
            }
        }
        Due.is("all SHARES", from, 2688);
    }

    private static void drawnAt(FairNext x, int place, int year, int m, int due) {
        Edge.aim(x, place);
        Due.is("drawn at " + place, x.draw(year, m), due);
    }

    private static void fit() {
        Sentence.of(0, "They FIT by m, if they have m MISSES (0 to 9) or fewer.");
        Edge.asked("fits 0 = 600", "fits 9 = 600");
        for (int many = 1; many <= 9; many++) {
            Edge.ask(Edge.missed(many), "fits " + many + " = 600", "fits " + (many - 1) + " = 0", "fits 9 = 600", "fits 0 = 0");
        }
        Edge.ask(Edge.missed(10), "fits 9 = 0");
        Edge.ask(Edge.missed(24), "fits 9 = 0");
        // K 1 misses one of nine told alike, K 4 misses four
        Edge.ask(nines(), "fits 0 = 0", "fits 1 = 34", "fits 2 = 68", "fits 3 = 102", "fits 4 = 136", "fits 5 = 136");
    }

    private static void plain() {
        Sentence.of(0, "PLAINEST by m: of those that FIT the first with the fewest WORDS.");
        plainest(new FairNext(), 0, 0, 0, 0, 1, 1, 0);
        plainest(Edge.missed(9), 9, 0, 0, 0, 1, 1, 9);
        // three KINDS with two WORDS, then two KINDS
        plainest(Edge.asked("year 0 3 = -9"), 0, 0, 0, 3, 1, 2, 0);
        plainest(Edge.asked("year 0 0 = -9", "year 1 1 = -9"), 0, 1, 1, 0, 1, 2, 0);
        // back 1 0 1 misses once too and comes first, but has two WORDS
        plainest(Edge.asked("year 0 9 = -9", "year 1 9 = -9", "year 2 9 = -9"), 1, 3, 0, 0, 1, 1, 1);
        // with all four WORDS: there FITS one alone
        Edge.ask(one(), "fits 2 = 1", "fits 1 = 0");
        plainest(one(), 2, 2, 3, 1, 2, 4, 2);
    }

    private static void plainest(FairNext x, int m, int... due) {
        for (int what = 0; what < 6; what++) {
            Edge.ask(x, "plainest " + m + " " + what + " = " + due[what]);
        }
    }

    private static void share() {
        Sentence.of(0, "SHARE of a RULE that FITS: 1, 4, 16, 64 with 4, 3, 2, 1 WORDS.");
        // what is drawn in YEAR 0, where rule and line say B: the last place of each B and the first of the next;
        // with A 0 and B 0 64, and 16 with three more K; each other B 16, and 4; with A 1 and B 0 16, and 4; each other B 4, and 1
        int[] last = {63, 0, 111, 0, 127, 1, 139, 1, 167, 2, 195, 3, 223, 4, 239, 0, 251, 0, 255, 1, 258, 1, 265, 2, 272, 3, 279, 4, 447, 4};
        int[] next = {64, 0, 112, 1, 128, 1, 140, 2, 168, 3, 196, 4, 224, 0, 240, 0, 252, 1, 256, 1, 259, 2, 266, 3, 273, 4, 280, 0, 448, 0};
        FairNext x = new FairNext();
        for (int i = 0; i < last.length; i += 2) {
            drawnAt(x, last[i], 0, 0, last[i + 1]);
            drawnAt(x, next[i], 0, 0, next[i + 1]);
        }
    }

    private static void oddsOf() {
        Sentence.of(0, "ODDS of a VILLAGE in a YEAR by m: SHARES of those that FIT and say it, of SHARES of all that FIT and say something there.");
        // half of all SHARES are of KINDS that say nothing in YEAR 0: 672 of 1344, 168, none
        Edge.asked("odds 0 0 0 0 = 1", "odds 0 0 0 1 = 2", "odds 0 1 0 0 = 1", "odds 0 1 0 1 = 8", "odds 0 4 0 1 = 8", "odds 0 5 0 0 = 0", "odds 0 5 0 1 = 1",
            "odds 0 9 0 0 = 0", "odds 0 9 0 1 = 1");
        // those that don't FIT have none: by 0 all say 3, by 1 as if nothing were told
        Edge.asked("year 0 3 = -9", "odds 0 3 0 0 = 1", "odds 0 3 0 1 = 1", "odds 0 0 0 0 = 0", "odds 0 3 1 0 = 1", "odds 0 3 1 1 = 8", "odds 0 0 1 0 = 1",
            "odds 0 0 1 1 = 2");
        Edge.ask(nines(), "odds 10 9 1 0 = 1", "odds 10 9 1 1 = 1", "odds 99 9 1 0 = 1", "odds 99 9 1 1 = 1", "odds 10 8 1 0 = 0", "odds 0 9 1 0 = -3");
        // one SHARE is all there is; in YEAR 14 none
        Edge.ask(one(), "odds 12 3 2 0 = 1", "odds 12 3 2 1 = 1", "odds 12 4 2 0 = 0", "odds 12 4 2 1 = 1", "bet 12 2 = 3", "hard 12 2 = 0", "sure 12 2 = 3",
            "camp 12 2 = 3", "draw 12 2 = 3", "odds 13 2 2 0 = 1", "sure 13 2 = 2", "odds 14 3 2 0 = -3", "bet 14 2 = -3", "draw 14 2 = -3");
        // a VILLAGE of N and more has none
        Edge.asked("villages 2 = 10", "odds 0 0 0 0 = 3", "odds 0 0 0 1 = 4", "odds 0 1 0 0 = 1", "odds 0 1 0 1 = 4", "odds 0 2 0 0 = 0", "odds 0 9 0 1 = 1");
    }

    private static void greatest() {
        Sentence.of(0, "BET: the VILLAGE with the greatest ODDS, of several the least.");
        Edge.asked("bet 0 0 = 0", "year 0 4 = -9", "bet 0 0 = 4", "bet 0 1 = 0");
        Edge.ask(halves(), "bet 20 1 = 1", "year 0 4 = 1", "bet 20 1 = 2");
        Edge.ask(nines(), "bet 10 1 = 9", "bet 99 1 = 9");
        Edge.ask(two(1), "bet 7 0 = 8", "mark 7 9 = 1", "bet 7 0 = 7");
    }

    private static void leastOdds() {
        Sentence.of(0, "HARD: the VILLAGE (0 to N less 1) with the least ODDS, of several the least.");
        // in YEAR 1 of a new object SHARES fall from 5 to 8, and 9 has none
        Edge.asked("hard 0 0 = 5", "hard 1 0 = 9", "villages 9 = 10", "hard 1 0 = 8", "villages 2 = 9", "hard 0 0 = 1", "hard 1 0 = 1", "villages 5 = 2",
            "hard 0 0 = 1");
        Edge.ask(nines(), "hard 10 1 = 0");
        Edge.asked("year 0 0 = -9", "hard 0 0 = 1");
        // 1 and 2 have half each, 0 and 3 to 9 none
        Edge.ask(halves(), "hard 20 1 = 0", "villages 2 = 10", "year 10 0 = 2", "hard 20 1 = 1");
        Edge.ask(Edge.missed(1), "hard 0 1 = 1", "hard 0 0 = -3");
    }

    private static void oneAlone() {
        Sentence.of(0, "SURE: whether all that FIT and say something say the same one.");
        Edge.asked("sure 0 0 = -3", "year 0 0 = -9", "sure 0 0 = 0", "sure 10 0 = 0", "sure 1 0 = -3", "year 0 4 = 0", "sure 0 0 = 4", "sure 0 1 = -3");
        // some that FIT say nothing
        Edge.ask(nines(), "sure 10 1 = 9", "sure 11 1 = 9", "sure 99 1 = 9", "sure 0 1 = -3");
        Edge.ask(halves(), "sure 20 1 = -3");
        Edge.ask(two(0), "sure 7 0 = 8", "mark 7 1 = 0", "sure 7 0 = -3");
    }

    private static void leftOut() {
        Sentence.of(0, "LEFT OUT by m: the told YEAR which, if it were lost, would leave the PLAINEST with the fewest WORDS, of several the first");
        // three WORDS now, two without either
        Edge.asked("year 0 1 = -9", "year 1 2 = -9", "leave 0 = 0");
        // two WORDS without 0 (rule 0 3 1), one without 1 (marked 0 0 1), two without 2
        Edge.asked("year 0 7 = -9", "year 1 3 = -9", "year 2 3 = -9", "mark 0 7 = 0", "mark 2 3 = 0", "leave 0 = 1", "yearOf 1 0 = 3");
        Edge.asked("year 0 9 = -9", "leave 0 = 0", "yearOf 0 0 = 9", "many 0 = 1");
        Edge.asked("year 0 0 = -9", "year 1 0 = -9", "year 2 0 = -9", "year 3 0 = -9", "year 23 9 = -9", "leave 0 = 23", "leave 1 = -3");
        // among others that leave as few
        Edge.ask(Edge.inUse(), "leave 1 = 0", "leave 2 = 0", "leave 3 = 0", "leave 4 = -3");
    }

    private static void noneLeftOut() {
        Sentence.of(0, "(none, if no YEAR leaves fewer than now; if none FITS now, any that FITS then is fewer).");
        // no YEARS; one WORD now; three now and then
        Edge.asked("leave 0 = -3", "leave 9 = -3");
        Edge.asked("year 0 0 = -9", "year 1 0 = -9", "leave 0 = -3");
        Edge.asked("year 0 1 = -9", "year 1 2 = -9", "year 2 3 = -9", "leave 0 = -3");
        // none FITS now: one does then by as many MISSES less 1, but not by fewer
        for (int many = 1; many <= 10; many++) {
            Edge.ask(Edge.missed(many), "leave " + (many - 1) + " = 0");
        }
        Edge.ask(Edge.missed(2), "leave 0 = -3", "leave 2 = -3");
        Edge.ask(Edge.missed(10), "leave 8 = -3");
        Edge.ask(Edge.missed(11), "leave 9 = -3");
        // any is fewer, with four WORDS too: there FITS one alone then
        Edge.ask(one(), "leave 2 = -3", "year 12 0 = -9", "plainest 2 4 = -3", "leave 2 = 12");
    }

    private static void leastFar() {
        Sentence.of(0, "CAMP for a YEAR by m: the VILLAGE (0 to N less 1) from which it is least far: the sum of SHARES times how far"
            + " (VILLAGES apart, the shorter way round all N) it is to what those that FIT say; of several the least.");
        // 8 and 2 are 4 apart over 9, 0 and 1; 8 and 3 are 5 apart either way; 8 and 4 are 4 apart
        Edge.ask(two(4), "camp 7 0 = 0", "mark 7 5 = 4", "camp 7 0 = 0", "mark 7 6 = 5", "camp 7 0 = 4", "mark 7 1 = 6", "camp 7 0 = 8", "mark 7 0 = 1",
            "camp 7 0 = 8");
        // of 9 VILLAGES 8 and 0 lie side by side
        Edge.ask(two(1), "villages 9 = 10", "camp 7 0 = 0", "mark 7 0 = 1", "camp 7 0 = 8");
        Edge.ask(nines(), "camp 10 1 = 9", "camp 0 1 = -3");
        Edge.ask(halves(), "camp 20 1 = 1");
        // SHARES count: 112 of 168 say 3, the rest 4 to 7
        Edge.asked("year 0 3 = -9", "camp 1 0 = 3");
        int[] all = {0, 0, 0, 0, 0, 0, 1, 1, 0};
        for (int n = 2; n <= 10; n++) {
            FairNext x = Edge.asked("mark 1 7 = 0");
            x.villages(n);
            Edge.ask(x, "camp 1 0 = " + all[n - 2]);
        }
    }

    private static void drawn() {
        Sentence.of(0, "DRAWN: z (an int; 1 at first) becomes z * 1103515245 + 12345: (z >>> 16) modulo all SHARES of those that FIT and say something in a YEAR:"
            + " of these, in order, the first with which SHARES together are more; what it says.");
        Edge.asked("draw 0 0 = 2", "seed 0 = 1103527590", "draw 0 0 = 0", "seed MIN = 12345", "draw 0 0 = 0", "seed MAX = -2147471303", "draw 0 0 = 0",
            "seed -1 = 1043980748", "draw 0 0 = 1", "seed 0 = -1103502900");
        FairNext x = new FairNext();
        int[] places = {0, 0, 1343, 4, 1344, 0, 32767, 0, 32768, 0, 65535, 1};
        for (int i = 0; i < places.length; i += 2) {
            drawnAt(x, places[i], 0, 0, places[i + 1]);
        }
        // the first of the second half, by 7 SHARES each
        int[] inTwo = {6, 8, 7, 9, 13, 9, 14, 8, 20, 8, 21, 9};
        FairNext two = two(1);
        for (int i = 0; i < inTwo.length; i += 2) {
            drawnAt(two, inTwo[i], 7, 0, inTwo[i + 1]);
        }
        // those that FIT but say nothing have no place
        FairNext nines = nines();
        for (int place : new int[] {0, 255, 256, 363, 364, 65535}) {
            drawnAt(nines, place, 11, 1, 9);
        }
    }

    private static void fits() {
        Sentence.of(17, "How many of ALL RULES FIT by m.");
        Edge.ask(Edge.inUse(), "fits 0 = 0", "fits 1 = 0", "fits 2 = 20", "fits 3 = 114", "fits 4 = 600", "fits 9 = 600");
        Edge.reads("fits 0", "fits 9");
        Sentence.of(17, "BAD.");
        Edge.refused(-1, "fits -1", "fits 10", "fits MIN", "fits MAX");
    }

    private static void plainest() {
        Sentence.of(18, "PLAINEST: what = 0 KIND, 1 A, 2 B, 3 K, 4 WORDS, 5 MISSES.");
        plainest(Edge.inUse(), 2, 1, 1, 3, 1, 3, 2);
        plainest(Edge.inUse(), 9, 0, 0, 0, 1, 1, 4);
        Edge.reads("plainest 2 0", "plainest 9 5");
        Sentence.of(18, "BAD; NONE.");
        Edge.refused(-1, "plainest -1 0", "plainest 10 0", "plainest 9 -1", "plainest 9 6", "plainest MIN 0", "plainest MAX 0", "plainest 9 MIN",
            "plainest 9 MAX");
        Edge.refused(-3, "plainest 0 0", "plainest 0 5", "plainest 1 4");
    }

    // What is BAD of a call with a YEAR and m: the numbers beyond the least and the greatest.
    private static void badWhen(String call) {
        for (String when : new String[] {"-1 9", "100 9", "0 -1", "0 10", "MIN 9", "MAX 9", "0 MIN", "0 MAX"}) {
            Edge.refused(-1, call.replace("Y M", when).replaceAll("Y (.) M", when.replace(" ", " $1 ")));
        }
    }

    // NONE, if none FITS, and if what FITS says nothing there.
    private static void noneThere(String call) {
        for (String when : new String[] {"0 0", "99 0", "9 1"}) {
            Edge.refused(-3, call.replace("Y M", when).replaceAll("Y (.) M", when.replace(" ", " $1 ")));
        }
        Edge.refusedOf(AllRuleEdges::nines, -3, call.replace("Y M", "0 1").replaceAll("Y (.) M", "0 $1 1"));
        Edge.ask(nines(), "fits 1 = 34");
    }

    private static void odds() {
        Sentence.of(19, "ODDS (YEAR 0 to 99).");
        // by 3 in YEAR 9 119 of 344 say 3
        Edge.ask(Edge.inUse(), "odds 9 3 3 0 = 119", "odds 9 3 3 1 = 344", "odds 9 9 3 0 = 0", "odds 9 9 3 1 = 1", "odds 0 0 9 0 = 1", "odds 0 0 9 1 = 2");
        Edge.asked("odds 99 0 9 0 = 3", "odds 99 0 9 1 = 8");
        Edge.reads("odds 9 3 3 0", "odds 99 9 9 1");
        Sentence.of(19, "BAD; NONE: none that FITS says anything there.");
        badWhen("odds Y 3 M 0");
        Edge.refused(-1, "odds 0 -1 9 0", "odds 0 10 9 0", "odds 0 0 9 -1", "odds 0 0 9 2", "odds 0 MIN 9 0", "odds 0 MAX 9 0", "odds 0 0 9 MIN",
            "odds 0 0 9 MAX");
        noneThere("odds Y 0 M 0");
        noneThere("odds Y 9 M 1");
    }

    private static void bet() {
        Sentence.of(20, "BET.");
        Edge.ask(Edge.inUse(), "bet 9 3 = 3", "bet 9 9 = 2", "bet 0 9 = 0", "bet 99 9 = 0");
        Edge.reads("bet 9 3", "bet 99 9");
        Sentence.of(20, "BAD; NONE likewise.");
        badWhen("bet Y M");
        noneThere("bet Y M");
    }

    private static void hard() {
        Sentence.of(21, "HARD.");
        Edge.ask(Edge.inUse(), "hard 9 3 = 5", "hard 9 9 = 5", "hard 0 9 = 5");
        Edge.reads("hard 9 3", "hard 99 9");
        Sentence.of(21, "BAD; NONE likewise.");
        badWhen("hard Y M");
        noneThere("hard Y M");
    }

    private static void sure() {
        Sentence.of(22, "SURE: the VILLAGE.");
        Edge.ask(nines(), "sure 10 1 = 9");
        Edge.asked("year 0 0 = -9", "sure 0 0 = 0");
        Edge.reads("sure 9 3", "sure 99 9");
        Sentence.of(22, "BAD; NONE: they say several, or nothing.");
        badWhen("sure Y M");
        noneThere("sure Y M");
        Edge.refused(-3, "sure 0 9", "sure 9 3", "sure 99 9");
    }

    private static void leave() {
        Sentence.of(23, "LEFT OUT: the YEAR.");
        Edge.changes("leave 1", 0);
        Edge.changes("leave 3", 0);
        Edge.asked("year 23 9 = -9", "leave 0 = 23", "yearOf 23 0 = 9");
        Sentence.of(23, "BAD; NONE.");
        Edge.refused(-1, "leave -1", "leave 10", "leave MIN", "leave MAX");
        Edge.refused(-3, "leave 0", "leave 4", "leave 9");
    }

    private static void camp() {
        Sentence.of(24, "CAMP.");
        Edge.ask(Edge.inUse(), "camp 9 3 = 3", "camp 9 9 = 1");
        Edge.reads("camp 9 3", "camp 99 9");
        Sentence.of(24, "BAD; NONE: none that FITS says anything there.");
        badWhen("camp Y M");
        noneThere("camp Y M");
    }

    private static void seed() {
        Sentence.of(25, "z becomes v: what it was.");
        Edge.changes("seed 0", 77, "z");
        Edge.changes("seed MIN", 77, "z");
        Edge.changes("seed MAX", 77, "z");
        Edge.changes("seed -1", 77, "z");
        Edge.changes("seed 77", 77);
        Edge.asked("seed MIN = 1", "seed MAX = MIN", "seed -1 = MAX", "seed -3 = -1", "seed 0 = -3", "seed 0 = 0");
    }

    private static void draw() {
        Sentence.of(26, "DRAWN: the VILLAGE.");
        Edge.changes("draw 0 9", 0, "z");
        Edge.ask(Edge.inUse(), "draw 0 9 = 0", "seed 0 = -928659710", "draw 99 9 = 0", "seed 0 = 12345");
        // of 1792 SHARES the last are of marked 4 4 4, then it is rule 0 0 1 again
        drawnAt(Edge.inUse(), 1791, 99, 9, 1);
        drawnAt(Edge.inUse(), 1792, 99, 9, 0);
        Sentence.of(26, "BAD; NONE: none that FITS says anything there.");
        badWhen("draw Y M");
        noneThere("draw Y M");
    }
}
