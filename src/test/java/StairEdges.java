/** Boundary cases of promises 18 to 22: pairs, the stair, by turns. */
final class StairEdges {
    private static final int BAD = GloveRegret.BAD, NOT = GloveRegret.NOT, VOID = GloveRegret.VOID;
    private static final int MIN = Integer.MIN_VALUE, MAX = Integer.MAX_VALUE;

    static void all(Edges e) {
        pairs(e);
        judge(e);
        judgeRefused(e);
        looked(e);
        faded(e);
        felt(e);
        fitsRefused(e);
        upside(e);
        turnsRefused(e);
        turnsAtBounds(e);
        turnsOfTimes(e);
        turnsOfLikeOnes(e);
    }

    /** Guests with a right glove each, LOOKS 0, as many as REGRETS are told; nothing fades. */
    private static GloveRegret guests(int... regrets) {
        GloveRegret x = new GloveRegret();
        for (int g = 0; g < regrets.length; g++) {
            x.guest(1, 7);
            x.mend(g, 0, regrets[g]);
            x.mend(g, 1, 0);
        }
        return x;
    }

    private static void duePairs(Edges e, String told, int pairs, int over, int least, int... gloves) {
        GloveRegret x = new GloveRegret();
        for (int glove : gloves) {
            x.guest(glove / 10, glove % 10);
        }
        e.dueAll(told, new long[] {x.pairs(0), x.pairs(1), x.pairs(2)}, pairs, over, least);
    }

    private static void pairs(Edges e) {
        e.says(Edges.TERMS, "how many gloves are over; the least SIZE of which one is over (NOT).");
        // tens: 0 left, 1 right; ones: SIZE
        duePairs(e, "none", 0, 0, NOT);
        duePairs(e, "one", 0, 1, 9, 9);
        duePairs(e, "the least of all", 0, 1, 5, 15);
        duePairs(e, "two of a hand", 0, 2, 5, 5, 5);
        duePairs(e, "a pair", 1, 0, NOT, 5, 15);
        duePairs(e, "of unlike SIZE", 0, 2, 5, 6, 15);
        duePairs(e, "one over of a pair's SIZE", 1, 1, 9, 9, 19, 9);
        duePairs(e, "four pairs, one over", 4, 1, 7, 5, 15, 6, 16, 8, 18, 9, 19, 17);
        duePairs(e, "four pairs of one SIZE", 4, 1, 5, 5, 5, 5, 5, 5, 15, 15, 15, 15);
        duePairs(e, "each SIZE over", 0, 5, 5, 9, 8, 7, 6, 5);
        e.says(18, "PAIRS (what 0), how many over (1), the least SIZE over (2; NOT). BAD.");
        GloveRegret x = new GloveRegret();
        x.guest(0, 5);
        x.guest(1, 5);
        x.guest(1, 6);
        e.dueEach("no such what", BAD, x.pairs(-1), x.pairs(3), x.pairs(MIN), x.pairs(MAX));
        x.mend(0, 5, 1);
        e.dueAll("one is GONE", new long[] {x.pairs(0), x.pairs(1), x.pairs(2)}, 0, 2, 5);
        x.mend(1, 5, 1);
        x.mend(2, 5, 1);
        e.dueAll("all are GONE", new long[] {x.pairs(0), x.pairs(1), x.pairs(2)}, 0, 0, NOT);
    }

    private static int judged(GloveRegret x, int... stair) {
        Check.bytes(x, 5, stair);
        return x.judge(5);
    }

    private static void judge(Edges e) {
        e.says(Edges.TERMS, "who went as the first, second .. from now on (9: not seen; 9 at most count)");
        GloveRegret x = guests(30, 20, 10);
        e.dueEach("as it is", NOT, judged(x), judged(x, 0), judged(x, 0, 1, 2), judged(x, 9), judged(x, 9, 9, 9),
            judged(x, 9, 1), judged(x, 0, 9, 2));
        x.mend(0, 1, 9);
        x.mend(1, 0, 25);
        e.due("from now on, not from behind a MINUTE", judged(x, 0, 1), NOT);
        GloveRegret nine = guests(0, 0, 0, 0, 0, 0, 0, 0, 0);
        e.dueEach("what is behind nine does not count", NOT, judged(nine, 0, 1, 2, 3, 4, 5, 6, 7, 8, 0),
            judged(nine, 9, 9, 9, 9, 9, 9, 9, 9, 9, 9, 9));
        e.due("the ninth counts", judged(nine, 9, 9, 9, 9, 9, 9, 9, 9, 7), 8);
        e.due("the ninth is so", judged(nine, 9, 9, 9, 9, 9, 9, 9, 9, 8), NOT);
        nine.row(0, 0, 60);
        e.due("a row of 60", nine.judge(0), 1);
        for (int i = 0; i < 9; i++) {
            nine.put(0, i, i);
        }
        e.due("a row of 60, the first nine as they go", nine.judge(0), NOT);
        e.says(Edges.TERMS, "JUDGED: the first that is not so (also more than there are); NOT.");
        GloveRegret y = guests(30, 20, 10);
        e.dueEach("the first", 0, judged(y, 1), judged(y, 2, 1, 0), judged(y, 10), judged(y, -1), judged(y, 127),
            judged(y, -128), judged(y, 8, 9, 9, 9));
        e.dueEach("the second", 1, judged(y, 0, 0), judged(y, 9, 2), judged(y, 0, -9, 2), judged(y, 0, 2, 1));
        e.dueEach("the third", 2, judged(y, 0, 1, 0), judged(y, 9, 9, 1));
        e.dueEach("more than there are", 3, judged(y, 0, 1, 2, 9), judged(y, 9, 9, 9, 9), judged(y, 0, 1, 2, 0));
        y.mend(0, 5, 1);
        e.due("one who is GONE does not go", judged(y, 0), 0);
        e.due("the next one does", judged(y, 1, 2), NOT);
        e.due("there are two", judged(y, 1, 2, 9), 2);
        e.due("nobody at all", judged(new GloveRegret(), 9), 0);
        e.due("nobody at all, none seen", judged(new GloveRegret()), NOT);
    }

    private static void judgeRefused(Edges e) {
        e.says(19, "JUDGED. BAD, -11, -12 (no ROW of bytes); NOT.");
        GloveRegret x = guests(30, 20);
        e.dueEach("no such shelf", BAD, x.judge(-1), x.judge(6), x.judge(7), x.judge(MIN), x.judge(MAX));
        for (int shelf = 0; shelf < 6; shelf++) {
            e.due("nothing", x.judge(shelf), -11);
        }
        for (int sort = 1; sort <= 4; sort++) {
            x.row(5, sort, 1);
            e.due("a row of sort " + sort, x.judge(5), -12);
            x.row(5, sort, 0);
            e.due("an empty row of sort " + sort, x.judge(5), -12);
        }
        x.keep(5, x.body(4));
        e.due("a hook", x.judge(5), -12);
        x.row(5, 0, 0);
        e.due("an empty row of bytes", x.judge(5), NOT);
        x.keep(5, -1);
        e.due("nothing again", x.judge(5), -11);
    }

    private static long[] fits(GloveRegret x, int guest, int what, int... stair) {
        Check.bytes(x, 1, stair);
        return new long[] {x.fits(1, guest, what), x.fits(1, guest, what + 1)};
    }

    private static void looked(Edges e) {
        e.says(Edges.TERMS, "LOOKED: by how many LOOKS (0 .. 9) of one all is so; the least (NOT).");
        GloveRegret x = guests(37, 20);
        e.dueAll("20 and 18 is more than 37", fits(x, 1, 0, 1, 0), 1, 9);
        x.mend(0, 0, 38);
        e.dueAll("not more than 38", fits(x, 1, 0, 1, 0), 0, NOT);
        x.mend(0, 0, 21);
        e.dueAll("20 is less than 21", fits(x, 1, 0, 0, 1), 1, 0);
        e.dueAll("all others", fits(x, 1, 0, 1, 0), 9, 1);
        e.dueAll("none seen", fits(x, 1, 0), 10, 0);
        x.mend(1, 2, 9);
        e.dueAll("how he looks now does not matter", fits(x, 1, 0, 0, 1), 1, 0);
        e.dueAll("more than there are", fits(x, 1, 0, 9, 9, 9), 0, NOT);
        x.mend(0, 1, 9);
        e.dueAll("from now on, not from behind a MINUTE", fits(x, 1, 0, 0, 1), 1, 0);
    }

    private static void faded(Edges e) {
        e.says(Edges.TERMS, "FADED: by how many FADES (0 .. 9); the least (NOT).");
        GloveRegret x = guests(50, 30, 22);
        e.dueAll("30 less 9 is less than 22", fits(x, 1, 2, 0, 2, 1), 1, 9);
        e.dueAll("all others", fits(x, 1, 2, 0, 1, 2), 9, 0);
        x.mend(2, 0, 30);
        e.dueAll("as much as 30 by 0 alone", fits(x, 1, 2, 0, 1, 2), 1, 0);
        x.mend(2, 0, 31);
        e.dueAll("less than 31 by any", fits(x, 1, 2, 0, 1), 0, NOT);
        e.dueAll("by all", fits(x, 1, 2, 0, 2), 10, 0);
        x.mend(1, 1, 9);
        e.dueAll("how he fades now does not matter", fits(x, 1, 2, 0, 2), 10, 0);
    }

    private static void felt(Edges e) {
        e.says(Edges.TERMS, "FELT: by how many REGRETS (0 .. 99) now; the least (NOT).");
        GloveRegret x = guests(98, 50, 1);
        e.dueAll("more than 98", fits(x, 1, 4, 1), 1, 99);
        e.dueAll("less than 1", fits(x, 1, 4, 0, 2, 1), 1, 0);
        e.dueAll("1 to 98", fits(x, 1, 4, 0, 1, 2), 98, 1);
        x.mend(0, 0, 99);
        e.dueAll("more than 99", fits(x, 1, 4, 1), 0, NOT);
        e.dueAll("all", fits(x, 1, 4, 0), 100, 0);
        x.mend(1, 5, 1);
        e.dueAll("GONE, all is so", fits(x, 1, 4, 0, 2), 100, 0);
        e.dueAll("GONE, it is not so", fits(x, 1, 4, 1), 0, NOT);
    }

    private static void fitsRefused(Edges e) {
        e.says(20,
            "LOOKED: how many (what 0), the least (1; NOT), FADED (2, 3), FELT (4, 5) of a GUEST. BAD, -11, -12.");
        GloveRegret x = guests(30, 20);
        x.row(0, 0, 1);
        e.dueEach("no such shelf", BAD, x.fits(-1, 0, 0), x.fits(6, 0, 0), x.fits(7, 0, 5), x.fits(MIN, 0, 0),
            x.fits(MAX, 0, 0));
        e.dueEach("no such guest", BAD, x.fits(0, -1, 0), x.fits(0, 2, 0), x.fits(0, 9, 5), x.fits(0, MIN, 0),
            x.fits(0, MAX, 0));
        e.dueEach("no such what", BAD, x.fits(0, 0, -1), x.fits(0, 0, 6), x.fits(0, 0, 7), x.fits(0, 0, MIN),
            x.fits(0, 0, MAX));
        e.dueEach("nothing", -11, x.fits(1, 0, 0), x.fits(5, 1, 5));
        e.dueEach("BAD ahead of -11", BAD, x.fits(1, 2, 0), x.fits(1, 0, 6));
        for (int sort = 1; sort <= 4; sort++) {
            x.row(2, sort, 1);
            e.due("a row of sort " + sort, x.fits(2, 0, 0), -12);
        }
        e.dueEach("BAD ahead of -12", BAD, x.fits(2, 2, 0), x.fits(2, 0, 6));
        x.keep(2, x.body(0));
        e.due("a hook", x.fits(2, 0, 4), -12);
    }

    private static void upside(Edges e) {
        e.says(21, "UPSIDE (what 0), READ ALIKE (1). BAD.");
        GloveRegret x = new GloveRegret();
        e.dueEach("no such what", BAD, x.upside(-1), x.upside(2), x.upside(MIN), x.upside(MAX));
        e.dueEach("nobody at all", 0, x.upside(0), x.upside(1));
        x.guest(1, 7);
        e.dueEach("one", 0, x.upside(0), x.upside(1));
        e.says(Edges.TERMS, "READ ALIKE: how many pairs are READ the same.");
        GloveRegret nine = guests(1, 2, 3, 4, 5, 6, 7, 8, 9);
        e.dueAll("in THE ORDER", new long[] {nine.upside(0), nine.upside(1)}, 0, 0);
        Check.law(nine, "99-r");
        e.dueAll("all the other way", new long[] {nine.upside(0), nine.upside(1)}, 36, 0);
        Check.law(nine, "7");
        e.dueAll("READ alike, the least first", new long[] {nine.upside(0), nine.upside(1)}, 36, 36);
        nine.mend(4, 5, 1);
        e.dueAll("one is GONE", new long[] {nine.upside(0), nine.upside(1)}, 28, 28);
        e.says(Edges.TERMS, "(one has more REGRET, and comes behind)");
        GloveRegret y = guests(20, 20);
        y.mend(1, 2, 1);
        e.dueAll("none has more", new long[] {y.upside(0), y.upside(1)}, 0, 0);
        y.mend(0, 0, 21);
        e.dueAll("by one, 21 behind 22", new long[] {y.upside(0), y.upside(1)}, 1, 0);
        y.mend(0, 0, 20);
        y.mend(0, 2, 2);
        e.dueAll("none has more, the least first", new long[] {y.upside(0), y.upside(1)}, 0, 0);
        y.mend(0, 2, 0);
        y.mend(0, 0, 22);
        e.dueAll("alike, the more sorry first", new long[] {y.upside(0), y.upside(1)}, 0, 1);
        GloveRegret z = guests(20, 21);
        z.mend(0, 2, 1);
        e.dueAll("the least is first, the other has more by one", new long[] {z.upside(0), z.upside(1)}, 1, 0);
    }

    private static void turnsRefused(Edges e) {
        e.says(22, "BY TURNS (ab: 10 times the one, and the other, unlike, not GONE): by how many (what 0), "
            + "the one's first (1). VOID: BAD.");
        GloveRegret x = guests(30, 20, 10);
        e.dueEach("like ones", VOID, x.byTurns(0, 1, 0), x.byTurns(11, 1, 0), x.byTurns(22, 1, 1));
        e.dueEach("no such guest", VOID, x.byTurns(3, 1, 0), x.byTurns(30, 1, 0), x.byTurns(9, 1, 0),
            x.byTurns(90, 1, 1), x.byTurns(100, 1, 0), x.byTurns(101, 1, 0), x.byTurns(MAX, 1, 0));
        e.dueEach("below 0", VOID, x.byTurns(-1, 1, 0), x.byTurns(-10, 1, 0), x.byTurns(-12, 1, 0),
            x.byTurns(MIN, 1, 0));
        e.dueEach("no such what", VOID, x.byTurns(1, 1, -1), x.byTurns(1, 1, 2), x.byTurns(1, 1, MAX));
        e.dueAll("as they go", new long[] {x.byTurns(1, 1, 0), x.byTurns(20, 1, 0), x.byTurns(12, 1, 0)}, 1, -2, 1);
        x.mend(1, 5, 1);
        e.dueEach("GONE", VOID, x.byTurns(1, 1, 0), x.byTurns(10, 1, 0), x.byTurns(21, 5, 1));
        e.due("the others", x.byTurns(2, 1, 0), 1);
        e.says(Edges.TERMS, "BY TURNS: two GUESTS, n (1 .. 5) times in all");
        e.dueEach("n too small", VOID, x.byTurns(2, 0, 0), x.byTurns(2, -1, 0), x.byTurns(2, MIN, 0));
        e.dueEach("n too large", VOID, x.byTurns(2, 6, 0), x.byTurns(2, 7, 1), x.byTurns(2, MAX, 0));
        e.dueEach("n 1 to 5", 1, x.byTurns(2, 1, 0), x.byTurns(2, 2, 0), x.byTurns(2, 3, 0), x.byTurns(2, 4, 0),
            x.byTurns(2, 5, 0));
    }

    /** Two of whom the one goes first only if he LOOKS just so, whatever the other does. */
    private static long[] turns(int looks, int wanted, int n) {
        GloveRegret x = guests(0, 0);
        x.mend(0, 2, looks);
        Check.law(x, "g=1?50;(l=" + wanted + ")*60");
        return new long[] {x.byTurns(1, n, 0), x.byTurns(1, n, 1)};
    }

    private static void turnsAtBounds(Edges e) {
        e.says(Edges.TERMS, "looks 2 sorrier (9 at most), 2 less (0 at least), or as he does");
        e.dueAll("3 to 5", turns(3, 5, 1), 1, 0);
        e.dueAll("3 to 4", turns(3, 4, 1), -1, 2);
        e.dueAll("3 to 6", turns(3, 6, 1), -1, 2);
        e.dueAll("7 to 9", turns(7, 9, 1), 1, 0);
        e.dueAll("8 to 9", turns(8, 9, 1), 1, 0);
        e.dueAll("9 to 9", turns(9, 9, 1), 1, 2);
        e.dueAll("6 to 9", turns(6, 9, 1), -1, 2);
        e.dueAll("5 to 3", turns(5, 3, 1), 1, 1);
        e.dueAll("5 to 2", turns(5, 2, 1), -1, 2);
        e.dueAll("2 to 0", turns(2, 0, 1), 1, 1);
        e.dueAll("1 to 0", turns(1, 0, 1), 1, 1);
        e.dueAll("0 to 0", turns(0, 0, 1), 1, 2);
        e.dueAll("3 to 0", turns(3, 0, 1), -1, 2);
        e.dueAll("6 to 9 in two of three turns", turns(6, 9, 3), 1, 0);
        e.dueAll("3 to 0 in two of three turns", turns(3, 0, 3), 1, 1);
        e.dueAll("8 as he does", turns(8, 8, 1), 1, 2);
    }

    private static void turnsOfTimes(Edges e) {
        e.says(Edges.TERMS, "n (1 .. 5) times in all, the one first");
        // three steps of the one want the first, the third and the fifth time
        int[] ahead = {-1, -1, -1, -1, 1};
        for (int n = 1; n <= 5; n++) {
            e.due("0 to 6 in " + n, turns(0, 6, n)[0], ahead[n - 1]);
        }
        int[] aheadByTwo = {-1, -1, 1, 1, 1};
        for (int n = 1; n <= 5; n++) {
            e.due("0 to 4 in " + n, turns(0, 4, n)[0], aheadByTwo[n - 1]);
        }
        // whoever is asked last has his way: LOOKS 0 and 0, sorrier goes first
        GloveRegret x = guests(20, 20);
        int[] oneFirst = {1, 1, 1, 1, 1};
        int[] otherFirst = {1, -1, 1, -1, 1};
        for (int n = 1; n <= 5; n++) {
            e.due("of like ones the least goes first, n " + n, x.byTurns(1, n, 0), oneFirst[n - 1]);
            e.due("the other way, n " + n, x.byTurns(10, n, 0), otherFirst[n - 1]);
        }
        e.dueAll("nobody looks otherwise then", new long[] {x.of(0, 2), x.of(1, 2)}, 0, 0);
        // behind a MINUTE he has 15, and 4 more if he looks sorrier
        x.mend(0, 0, 24);
        x.mend(0, 1, 9);
        e.due("from now on, not from behind a MINUTE", x.byTurns(1, 1, 0), 1);
        e.says(Edges.TERMS, "by how many the one is ahead (below 0: behind), if both do their best");
        GloveRegret nine = guests(0, 0, 0, 0, 0, 0, 0, 0, 0);
        Check.law(nine, "g=0?(l=2)*99;50");
        e.due("first and last of nine", nine.byTurns(8, 1, 0), 8);
        e.due("first and second of nine", nine.byTurns(1, 1, 0), 1);
        e.due("the last but one and the last", nine.byTurns(78, 1, 0), 1);
        nine.mend(8, 2, 9);
        Check.law(nine, "g=8?(l=2)*99;50");
        e.due("last and first of nine", nine.byTurns(80, 5, 0), -8);
        GloveRegret y = guests(0, 0);
        y.mend(0, 2, 5);
        y.mend(1, 2, 5);
        Check.law(y, "g=0?50;(l=5)*60");
        e.due("the other does his best as he does", y.byTurns(1, 2, 0), -1);
        y.mend(1, 2, 4);
        Check.law(y, "g=0?(l=5)*50;l*10");
        e.due("the one as he does, the other has no turn", y.byTurns(1, 1, 0), 1);
        e.due("the one as he does, the other has the last turn", y.byTurns(1, 2, 0), -1);
    }

    private static void turnsOfLikeOnes(Edges e) {
        e.says(Edges.TERMS, "(0 sorrier, 1 less, 2 as he does; of like ones 2 first, then the least)");
        GloveRegret x = guests(90, 10);
        e.dueAll("all alike", new long[] {x.byTurns(1, 1, 1), x.byTurns(10, 1, 1), x.byTurns(1, 5, 1)}, 2, 2, 2);
        GloveRegret y = guests(0, 0);
        y.mend(0, 2, 5);
        Check.law(y, "g=1?50;!(l=5)*60");
        e.due("sorrier and less alike", y.byTurns(1, 1, 1), 0);
        Check.law(y, "g=1?50;(l>4)*60");
        e.due("sorrier and as he does alike", y.byTurns(1, 1, 1), 2);
        Check.law(y, "g=1?50;(l<6)*60");
        e.due("less and as he does alike", y.byTurns(1, 1, 1), 2);
        Check.law(y, "g=1?50;(l<5)*60");
        e.due("less alone", y.byTurns(1, 1, 1), 1);
        Check.law(y, "g=1?50;(l>5)*60");
        e.due("sorrier alone", y.byTurns(1, 1, 1), 0);
    }
}
