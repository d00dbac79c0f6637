/** Boundary cases of promises 9 to 17: what would come. */
final class ThoughtEdges {
    private static final int BAD = GloveRegret.BAD, NOT = GloveRegret.NOT, STATE = GloveRegret.STATE;
    private static final int MIN = Integer.MIN_VALUE, MAX = Integer.MAX_VALUE;

    static void all(Edges e) {
        later(e);
        first(e);
        peak(e);
        goesAs(e);
        goesWhen(e);
        waits(e);
        sorry(e);
        slipWhenBounds(e);
        slipWhenBest(e);
        slipThatNeverComes(e);
        held(e);
        heldOfLikeOnes(e);
    }

    /** Guests with a right glove each, LOOKS 0, as many as REGRETS are told; nothing fades. */
    private static GloveRegret guests(int... regrets) {
        GloveRegret x = new GloveRegret();
        for (int g = 0; g < regrets.length; g++) {
            x.guest(1, 7);
            x.mend(g, 0, regrets[g]);
            x.mend(g, 1, 0);
        }
        return x;
    }

    private static void later(Edges e) {
        e.says(Edges.TERMS,
            "behind n (0 .. 60) MINUTES (nobody goes): READ, REGRET, place in THE ORDER (0 on; NOT: GONE) of one");
        GloveRegret x = guests(99, 50, 0);
        x.mend(0, 1, 1);
        for (int what = 0; what < 3; what++) {
            e.dueEach("n too small", BAD, x.later(-1, 0, what), x.later(MIN, 0, what));
            e.dueEach("n too large", BAD, x.later(61, 0, what), x.later(100, 0, what), x.later(MAX, 0, what));
        }
        e.dueAll("n 0", new long[] {x.later(0, 0, 0), x.later(0, 0, 1), x.later(0, 0, 2)}, 99, 99, 0);
        e.dueAll("n 60", new long[] {x.later(60, 0, 0), x.later(60, 0, 1), x.later(60, 0, 2)}, 39, 39, 1);
        Check.law(x, "n*10+m/10");
        e.due("nobody goes, MINUTES pass", x.later(60, 0, 0), 36);
        e.says(9, "Behind n MINUTES: READ (what 0), REGRET (1), place (2; NOT) of one. BAD.");
        for (int what = 0; what < 3; what++) {
            e.dueEach("no such guest", BAD, x.later(0, -1, what), x.later(0, 3, what), x.later(0, 8, what),
                x.later(0, 9, what), x.later(0, MIN, what), x.later(0, MAX, what));
        }
        e.dueEach("no such what", BAD, x.later(0, 0, -1), x.later(0, 0, 3), x.later(0, 0, MIN), x.later(0, 0, MAX));
        e.due("nobody at all", new GloveRegret().later(0, 0, 1), BAD);
        x.mend(0, 5, 1);
        e.dueEach("GONE has no place", NOT, x.later(0, 0, 2), x.later(60, 0, 2));
        e.due("GONE has REGRET, that does not fade", x.later(60, 0, 1), 99);
        e.due("GONE is READ", x.later(0, 0, 0), 20);
        e.dueEach("BAD ahead of NOT", BAD, x.later(61, 0, 2), x.later(-1, 0, 2));
    }

    private static void first(Edges e) {
        e.says(Edges.TERMS, "who is first (NOT: nobody)");
        GloveRegret x = new GloveRegret();
        e.dueEach("nobody at all", NOT, x.first(0), x.first(60));
        x.guest(1, 7);
        e.dueEach("one", 0, x.first(0), x.first(60));
        x.mend(0, 5, 1);
        e.dueEach("nobody is left", NOT, x.first(0), x.first(60));
        e.says(10, "Behind n MINUTES who is first. BAD; NOT.");
        e.dueEach("n too small", BAD, x.first(-1), x.first(MIN));
        e.dueEach("n too large", BAD, x.first(61), x.first(MAX));
        GloveRegret y = guests(60, 1);
        y.mend(0, 1, 1);
        e.due("behind 59 they are alike", y.first(59), 0);
        e.due("behind 60", y.first(60), 1);
        GloveRegret nine = guests(0, 0, 0, 0, 0, 0, 0, 0, 1);
        e.due("the last of nine", nine.first(0), 8);
    }

    private static void peak(Edges e) {
        e.says(Edges.TERMS,
            "PEAK: behind how many MINUTES (0 .. 60) REGRET of one is most (of like ones the least); that.");
        GloveRegret x = guests(10, 0);
        x.slip(0, 59, 5);
        e.dueAll("AT 59", new long[] {x.peak(0, 0), x.peak(0, 1)}, 60, 15);
        x.mend(0, 6, 60);
        e.dueAll("AT 60, too late", new long[] {x.peak(0, 0), x.peak(0, 1)}, 0, 10);
        x.mend(0, 6, 0);
        e.dueAll("AT 0", new long[] {x.peak(0, 0), x.peak(0, 1)}, 1, 15);
        e.dueAll("always 0", new long[] {x.peak(1, 0), x.peak(1, 1)}, 0, 0);
        x.mend(0, 1, 1);
        x.mend(0, 0, 9);
        x.mend(0, 6, 4);
        x.mend(0, 7, 6);
        x.slip(0, 14, 11);
        // 9, 5 behind 4, 10 behind 5, 1 behind 14, 11 behind 15
        e.dueAll("the later one is more", new long[] {x.peak(0, 0), x.peak(0, 1)}, 15, 11);
        x.mend(1, 7, 10);
        e.dueAll("like ones", new long[] {x.peak(0, 0), x.peak(0, 1)}, 5, 10);
        e.says(11, "PEAK: behind how many (what 0), that (1). BAD.");
        e.dueEach("no such guest", BAD, x.peak(-1, 0), x.peak(2, 0), x.peak(9, 1), x.peak(MIN, 0), x.peak(MAX, 1));
        e.dueEach("no such what", BAD, x.peak(0, -1), x.peak(0, 2), x.peak(0, MIN), x.peak(0, MAX));
        x.mend(0, 5, 1);
        e.dueAll("GONE, it stays", new long[] {x.peak(0, 0), x.peak(0, 1)}, 0, 9);
    }

    private static void goesAs(Edges e) {
        e.says(Edges.TERMS,
            "BEHIND n (0 .. 60) MINUTES ONE GOES each minute, till all are GONE: who is the k-th to go");
        GloveRegret x = guests(70, 40, 30);
        x.mend(0, 1, 1);
        e.dueEach("n too small", BAD, x.goesAs(-1, 0), x.goesAs(MIN, 0));
        e.dueEach("n too large", BAD, x.goesAs(61, 0), x.goesAs(MAX, 0));
        e.dueAll("n 0", new long[] {x.goesAs(0, 0), x.goesAs(0, 1), x.goesAs(0, 2)}, 0, 1, 2);
        // 70 - 60, less 1 and less 2
        e.dueAll("n 60", new long[] {x.goesAs(60, 0), x.goesAs(60, 1), x.goesAs(60, 2)}, 1, 2, 0);
        e.says(12, "who is the k-th (0 on; NOT: there are not as many). BAD.");
        e.dueEach("k too small", BAD, x.goesAs(0, -1), x.goesAs(60, MIN));
        e.dueEach("not as many", NOT, x.goesAs(0, 3), x.goesAs(0, 8), x.goesAs(0, 9), x.goesAs(60, 10), x.goesAs(0,
            MAX));
        e.dueEach("BAD ahead of NOT", BAD, x.goesAs(61, 3), x.goesAs(-1, MAX));
        x.mend(0, 5, 1);
        e.due("one less", x.goesAs(0, 2), NOT);
        e.due("the second", x.goesAs(0, 1), 2);
        x.mend(1, 5, 1);
        x.mend(2, 5, 1);
        e.due("nobody is left", x.goesAs(0, 0), NOT);
        GloveRegret nine = guests(0, 0, 0, 0, 0, 0, 0, 0, 0);
        e.due("the ninth", nine.goesAs(0, 8), 8);
        e.due("no tenth", nine.goesAs(0, 9), NOT);
    }

    private static void goesWhen(Edges e) {
        e.says(Edges.TERMS, "behind how many MINUTES in all one goes (n and his place among them; NOT: GONE already)");
        GloveRegret x = guests(10, 20, 30);
        e.dueAll("n 0", new long[] {x.goesWhen(0, 0), x.goesWhen(0, 1), x.goesWhen(0, 2)}, 2, 1, 0);
        e.dueAll("n 60", new long[] {x.goesWhen(60, 0), x.goesWhen(60, 1), x.goesWhen(60, 2)}, 62, 61, 60);
        x.mend(2, 5, 1);
        e.dueEach("GONE already", NOT, x.goesWhen(0, 2), x.goesWhen(60, 2));
        e.due("the others sooner", x.goesWhen(0, 0), 1);
        e.says(13, "Behind how many one goes. BAD; NOT.");
        e.dueEach("n too small", BAD, x.goesWhen(-1, 0), x.goesWhen(MIN, 0));
        e.dueEach("n too large", BAD, x.goesWhen(61, 0), x.goesWhen(MAX, 0));
        e.dueEach("no such guest", BAD, x.goesWhen(0, -1), x.goesWhen(0, 3), x.goesWhen(0, 9), x.goesWhen(0, MIN),
            x.goesWhen(0, MAX));
        e.dueEach("BAD ahead of NOT", BAD, x.goesWhen(61, 2), x.goesWhen(-1, 2));
        GloveRegret nine = guests(0, 0, 0, 0, 0, 0, 0, 0, 0);
        e.due("the ninth", nine.goesWhen(60, 8), 68);
    }

    private static void waits(Edges e) {
        e.says(14, "WAIT (from BEHIND n on, n too). BAD.");
        GloveRegret x = new GloveRegret();
        e.dueEach("nobody at all", 0, x.waits(0), x.waits(60));
        GloveRegret nine = guests(0, 1, 2, 3, 4, 5, 6, 7, 8);
        e.due("nine", nine.waits(0), 36);
        e.due("nine behind 60", nine.waits(60), 576);
        e.dueEach("n too small", BAD, nine.waits(-1), nine.waits(MIN), x.waits(-1));
        e.dueEach("n too large", BAD, nine.waits(61), nine.waits(MAX), x.waits(61));
        for (int g = 0; g < 8; g++) {
            nine.mend(g, 5, 1);
        }
        e.due("one is left", nine.waits(60), 60);
        nine.mend(8, 5, 1);
        e.due("nobody is left", nine.waits(60), 0);
    }

    private static void sorry(Edges e) {
        e.says(Edges.TERMS,
            "SORRY: the least LOOKS (0 .. 9) by which one, ONE GOING each minute from now on, is the k-th "
            + "(0 on) to go or sooner; NOT.");
        int[] others = {19, 20, 21, 22, 35, 36, 37, 38, 99};
        int[] looks = {0, 1, 1, 2, 8, 9, 9, NOT, NOT};
        for (int i = 0; i < others.length; i++) {
            GloveRegret x = guests(others[i], 20);
            e.due("ahead of " + others[i], x.sorry(1, 0), looks[i]);
            e.due("or behind him", x.sorry(1, 1), 0);
            x.mend(1, 2, 9);
            e.due("how he looks now does not matter", x.sorry(1, 0), looks[i]);
        }
        GloveRegret y = guests(38, 20, 38);
        e.due("of like ones the least goes first", y.sorry(0, 0), 0);
        // behind one MINUTE the third is 29, less than 20 and 9
        y.mend(2, 1, 9);
        e.due("a MINUTE passes ahead of the second", y.sorry(1, 1), 5);
        Check.law(y, "g=1?(l=7)*99;50");
        e.due("just one will do", y.sorry(1, 0), 7);
        e.due("as the second, too", y.sorry(1, 1), 7);
        Check.law(y, "g=1?l<9;0");
        e.due("LOOKS 0 will do", y.sorry(1, 0), 0);
        e.says(15, "SORRY. BAD; NOT (GONE, too).");
        e.dueEach("k too small", BAD, y.sorry(0, -1), y.sorry(0, MIN));
        e.dueEach("k too large", BAD, y.sorry(0, 9), y.sorry(0, 10), y.sorry(0, MAX));
        e.due("k 8", y.sorry(0, 8), 0);
        e.dueEach("no such guest", BAD, y.sorry(-1, 0), y.sorry(3, 0), y.sorry(9, 0), y.sorry(MIN, 0), y.sorry(MAX, 0));
        y.mend(0, 5, 1);
        e.dueEach("GONE", NOT, y.sorry(0, 0), y.sorry(0, 8));
        e.dueEach("BAD ahead of NOT", BAD, y.sorry(0, 9), y.sorry(0, -1));
    }

    private static void slipWhenBounds(Edges e) {
        e.says(16,
            "SLIP WHEN (wn: 100 times WEIGHT, and n): which (what 0), as the how-manieth (1). BAD; STATE: he is GONE.");
        GloveRegret x = guests(5, 0);
        e.dueEach("WEIGHT too small", BAD, x.slipWhen(1, 0, 0), x.slipWhen(1, 30, 0), x.slipWhen(1, 99, 1));
        e.dueEach("WEIGHT too large", BAD, x.slipWhen(1, 3100, 0), x.slipWhen(1, 3130, 1), x.slipWhen(1, 10005, 0));
        e.dueEach("n too large", BAD, x.slipWhen(1, 131, 0), x.slipWhen(1, 199, 0), x.slipWhen(1, 3031, 1),
            x.slipWhen(1, 3099, 1));
        e.dueEach("below 0", BAD, x.slipWhen(1, -1, 0), x.slipWhen(1, -100, 0), x.slipWhen(1, -3030, 1),
            x.slipWhen(1, MIN, 0));
        e.due("far too large", x.slipWhen(1, MAX, 0), BAD);
        e.dueEach("no such guest", BAD, x.slipWhen(-1, 100, 0), x.slipWhen(2, 100, 0), x.slipWhen(9, 100, 1),
            x.slipWhen(MIN, 100, 0), x.slipWhen(MAX, 100, 0));
        e.dueEach("no such what", BAD, x.slipWhen(1, 100, -1), x.slipWhen(1, 100, 2), x.slipWhen(1, 100, MIN),
            x.slipWhen(1, 100, MAX));
        // he needs more than 5 by one SLIP ahead of the first MINUTE in which one goes
        int[][] told = {{100, 1}, {130, 1}, {500, 1}, {530, 1}, {600, 1}, {601, 0}, {630, 0}, {3001, 0}, {3030, 0}};
        for (int[] one : told) {
            e.due("slipWhen(1, " + one[0] + ", 1)", x.slipWhen(1, one[0], 1), one[1]);
            e.due("slipWhen(1, " + one[0] + ", 0)", x.slipWhen(1, one[0], 0), 0);
        }
        for (int s = 0; s < 12; s++) {
            x.slip(0, 199, 1);
        }
        e.due("when SLIPS are FULL, too", x.slipWhen(1, 601, 1), 0);
        e.due("none came", x.count(1), 12);
        x.mend(1, 5, 1);
        e.dueEach("GONE", STATE, x.slipWhen(1, 100, 0), x.slipWhen(1, 3030, 1));
        e.dueEach("BAD ahead of STATE", BAD, x.slipWhen(1, 99, 0), x.slipWhen(1, 131, 0), x.slipWhen(1, 100, 2));
    }

    private static void slipWhenBest(Edges e) {
        e.says(Edges.TERMS, "SLIP WHEN: the minute from now (0 .. 30) AT which one more SLIP of his, of a told WEIGHT");
        // the third has 20 by the SLIP, less 9 each minute: it must come in the MINUTE in which the first goes
        GloveRegret x = guests(50, 5, 0);
        x.mend(2, 1, 9);
        for (int n = 0; n <= 30; n += 5) {
            e.due("which, n " + n, x.slipWhen(2, 2000 + n, 0), n);
            e.due("as the how-manieth, n " + n, x.slipWhen(2, 2000 + n, 1), 1);
        }
        // here it had to come one MINUTE later than 30
        GloveRegret y = guests(50, 50, 5, 0);
        y.mend(3, 1, 9);
        e.dueAll("30", new long[] {y.slipWhen(3, 2029, 0), y.slipWhen(3, 2029, 1)}, 30, 2);
        e.dueAll("31 is not tried", new long[] {y.slipWhen(3, 2030, 0), y.slipWhen(3, 2030, 1)}, 0, 3);
        e.says(Edges.TERMS,
            "lets him go soonest, if they begin to go behind n (0 .. 30) MINUTES (of like ones the least)");
        e.due("soonest of all", x.slipWhen(0, 101, 0), 0);
        // when the first has gone, he has 3 by a SLIP AT 28, 12 by one AT 29, 21 by one AT 30
        e.dueAll("like ones", new long[] {x.slipWhen(2, 3030, 0), x.slipWhen(2, 3030, 1)}, 29, 1);
        x.mend(2, 1, 0);
        e.dueAll("like ones from 0 on", new long[] {x.slipWhen(2, 3030, 0), x.slipWhen(2, 3030, 1)}, 0, 1);
    }

    private static void slipThatNeverComes(Edges e) {
        e.says(Edges.TERMS, "(AT beyond 199: it never comes)");
        GloveRegret x = guests(5, 0);
        Check.law(x, "99-r");
        // READ 94, 99: a SLIP of 10 would have him go as the second
        e.dueAll("behind their going", new long[] {x.slipWhen(1, 1020, 0), x.slipWhen(1, 1020, 1)}, 20, 0);
        x.mend(0, 8, 195);
        e.dueAll("AT 200", new long[] {x.slipWhen(1, 1020, 0), x.slipWhen(1, 1020, 1)}, 5, 0);
        x.mend(0, 8, 199);
        e.dueAll("from 199 on", new long[] {x.slipWhen(1, 1020, 0), x.slipWhen(1, 1020, 1)}, 1, 0);
        x.mend(0, 8, 169);
        e.dueAll("AT 199 is the last of 30", new long[] {x.slipWhen(1, 1030, 0), x.slipWhen(1, 1030, 1)}, 30, 0);
    }

    private static void held(Edges e) {
        e.says(17, "HELD OVER: which (what 0), that (1). BAD.");
        GloveRegret x = new GloveRegret();
        e.dueEach("no such what", BAD, x.held(-1), x.held(2), x.held(MIN), x.held(MAX));
        e.dueAll("nobody at all", new long[] {x.held(0), x.held(1)}, 9, 0);
        GloveRegret one = guests(30);
        e.dueAll("one", new long[] {one.held(0), one.held(1)}, 9, 30);
        one.mend(0, 5, 1);
        e.dueAll("nobody is left", new long[] {one.held(0), one.held(1)}, 9, 0);
        GloveRegret nine = guests(9, 9, 9, 9, 9, 9, 9, 9, 99);
        nine.mend(8, 1, 9);
        // 99 less 9 each of eight minutes is 27
        e.dueAll("the last of nine", new long[] {nine.held(0), nine.held(1)}, 8, 8 * 9 + 27);
    }

    private static void heldOfLikeOnes(Edges e) {
        e.says(Edges.TERMS, "(none: 9; of like ones none first, then the least)");
        GloveRegret x = guests(20, 20, 20);
        for (int g = 0; g < 3; g++) {
            x.mend(g, 2, 9 - g);
        }
        Check.law(x, "l");
        e.dueAll("nothing fades", new long[] {x.held(0), x.held(1)}, 9, 60);
        x.mend(0, 1, 3);
        x.mend(1, 1, 3);
        // none: 20 + 17 + 20; the first: 20 + 20 + 14; the second: 20 + 20 + 14
        e.dueAll("the first and the second alike", new long[] {x.held(0), x.held(1)}, 0, 54);
        x.mend(0, 1, 2);
        // the first: 20 + 20 + 16
        e.dueAll("the second", new long[] {x.held(0), x.held(1)}, 1, 54);
        x.mend(1, 5, 1);
        // none: 20 + 20; the first: 20 + 18
        e.dueAll("one is GONE", new long[] {x.held(0), x.held(1)}, 0, 38);
    }
}
