/** Boundary cases of promises 33 to 35: BODIES, ACTS, THE TRACE. */
final class HookEdges {
    private static final int BAD = GloveRegret.BAD, FULL = GloveRegret.FULL;
    private static final int MIN = Integer.MIN_VALUE, MAX = Integer.MAX_VALUE;

    static void all(Edges e) {
        body(e);
        act(e);
        wraps(e);
        trace(e);
    }

    private static void body(Edges e) {
        e.says(33, "A HOOK of a KIND (0 .. 7) is kept: its number. BAD, FULL.");
        GloveRegret x = new GloveRegret();
        e.dueEach("KIND too small", BAD, x.body(-1), x.body(MIN));
        e.dueEach("KIND too large", BAD, x.body(8), x.body(9), x.body(MAX));
        e.due("none came", x.count(4), 0);
        e.says(Edges.TERMS, "are kept by call as BODIES 0 .. 49");
        for (int n = 0; n <= 49; n++) {
            e.due("body " + n, x.body(n % 8), n);
        }
        e.dueEach("body 50", FULL, x.body(0), x.body(7));
        e.dueEach("BAD ahead of FULL", BAD, x.body(-1), x.body(8));
        e.due("fifty", x.count(4), 50);
        e.due("the last one acts", x.act(49, 2, 0), 49);
        for (int n = 0; n <= 49; n++) {
            x.keep(0, n);
            e.due("KIND of " + n, x.taken(0, 0), n % 8);
        }
    }

    private static void act(Edges e) {
        e.says(34, "An ACT (0 .. 3) of a HOOK with x. 0, and no TRACE then: no such HOOK, ACT.");
        GloveRegret x = new GloveRegret();
        e.due("no HOOK at all", x.act(0, 0, 5), 0);
        e.dueAll("no TRACE", new long[] {x.count(5), x.trace(0)}, 0, BAD);
        x.body(0);
        x.body(0);
        int[][] none = {{-1, 0}, {2, 0}, {50, 0}, {MIN, 0}, {MAX, 0}, {1, -1}, {1, 4}, {1, 5}, {1, MIN}, {1, MAX}, {-1,
            -1}};
        for (int[] one : none) {
            e.due("tells", x.act(1, 3, 7), 16);
            e.due("its TRACE", x.count(5), 4);
            e.due("act(" + one[0] + ", " + one[1] + ", 7)", x.act(one[0], one[1], 7), 0);
            e.dueAll("no TRACE then", new long[] {x.count(5), x.trace(0), x.trace(3)}, 0, BAD, BAD);
        }
        long[] acts = {x.act(1, 0, 7), x.act(1, 1, 7), x.act(1, 2, 7), x.act(1, 3, 7)};
        e.dueAll("ACTS 0 to 3 of HOOK 1", acts, 8, 16, 6, 16);
    }

    private static void wraps(Edges e) {
        e.says(Edges.TERMS, "ACTS with x (an int that wraps)");
        GloveRegret x = new GloveRegret();
        for (int kind = 0; kind < 8; kind++) {
            x.body(kind);
        }
        x.body(0);
        e.due("HOOK 8 hangs MAX", x.act(8, 0, MAX), MIN + 7);
        e.due("HOOK 8 reads MAX", x.act(8, 1, MAX), 14);
        e.due("HOOK 8 regrets MIN", x.act(8, 2, MIN), MIN + 8);
        e.due("TRAY 1 hangs MAX", x.act(1, 0, MAX), MIN + 3);
        // 2 times (2 ^ 30 - 2 + 2) is MIN, and less than nothing it is MIN again
        e.due("SOCK 2 reads", x.act(2, 1, (1 << 30) - 2), MIN);
        e.due("WIT 3 reads MAX", x.act(3, 1, MAX), -6);
        e.due("WIT 3 regrets MAX", x.act(3, 2, MAX), MAX - 11);
        e.due("STAIR 4 regrets MIN", x.act(4, 2, MIN), MIN + 4 - 9);
        e.due("SNOW 6 hangs MAX", x.act(6, 0, MAX), 10);
        e.due("ENVOY 5 reads MIN", x.act(5, 1, MIN), -12);
        // GREY 7 reads MAX: 2 times (MAX + 7 + 3), and (2 ^ 7) - (2 + 7 + 3)
        e.due("GREY 7 reads MAX", x.act(7, 1, MAX), 18 + 5 - 12);
        e.due("HOOK 8 tells MAX", x.act(8, 3, MAX), 14 - 9);
        // regrets(1) is (1 ^ 5) * 3
        e.due("ENVOY 5 tells MIN", x.act(5, 3, MIN), -24 ^ 5);
        // regrets(1) is (1 ^ 7) - (2 + 7 + 3)
        e.due("GREY 7 tells MAX", x.act(7, 3, MAX), 18 + 5 - 12 + 6 - 1);
    }

    private static void trace(Edges e) {
        e.says(35, "THE TRACE's i-th body. BAD.");
        GloveRegret x = new GloveRegret();
        e.dueEach("none yet", BAD, x.trace(0), x.trace(-1), x.trace(23), x.trace(24));
        x.body(7);
        x.body(0);
        x.act(1, 0, 1);
        e.due("one", x.trace(0), 1);
        e.dueEach("no other", BAD, x.trace(-1), x.trace(1), x.trace(2), x.trace(MIN), x.trace(MAX));
        e.says(Edges.TERMS,
            "THE TRACE: numbers of the bodies that ran in the latest act(), as they began; the first 24 are kept.");
        x.act(0, 3, 1);
        // the longest there is
        int[] longest = {81, 2, 80, 10, 20, 1, 50, 11, 20, 1, 50, 11, 20, 1};
        e.due("so many ran", x.count(5), longest.length);
        for (int i = 0; i < longest.length; i++) {
            e.due("trace(" + i + ")", x.trace(i), longest[i]);
        }
        e.dueEach("behind them", BAD, x.trace(longest.length), x.trace(23), x.trace(24), x.trace(25));
        x.act(1, 2, 1);
        e.dueAll("the latest act() alone", new long[] {x.count(5), x.trace(0), x.trace(1)}, 1, 11, BAD);
    }
}
