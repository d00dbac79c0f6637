/** Promises 18 to 23, worked out by hand. */
public final class StairTest {
    private static final int BAD = GloveRegret.BAD, NOT = GloveRegret.NOT, VOID = GloveRegret.VOID;
    private static final Check check = new Check();

    public static void main(String[] args) {
        pairs();
        judge();
        fits();
        upside();
        byTurns();
        byTurnsBothWays();
        drawnWithoutWine();
        drawnWithWine();
        check.end();
    }

    private static void pairs() {
        GloveRegret x = new GloveRegret();
        int[][] gloves = {{0, 9}, {1, 9}, {0, 5}, {0, 6}, {1, 6}, {1, 6}, {1, 9}, {0, 9}, {1, 7}};
        for (int[] glove : gloves) {
            x.guest(glove[0], glove[1]);
        }
        check.dueAll("pairs", new long[] {x.pairs(0), x.pairs(1), x.pairs(2)}, 3, 3, 5);
        x.mend(2, 5, 1);
        check.dueAll("without the 5", new long[] {x.pairs(0), x.pairs(1), x.pairs(2)}, 3, 2, 6);
        x.mend(3, 4, 7);
        check.dueAll("a left 7", new long[] {x.pairs(0), x.pairs(1), x.pairs(2)}, 3, 2, 6);
        x.mend(4, 5, 1);
        x.mend(5, 5, 1);
        check.dueAll("none over", new long[] {x.pairs(0), x.pairs(1), x.pairs(2)}, 3, 0, NOT);
        check.due("pairs(3)", x.pairs(3), BAD);
        check.due("pairs(-1)", x.pairs(-1), BAD);
    }

    private static int judged(GloveRegret x, int... stair) {
        Check.bytes(x, 0, stair);
        return x.judge(0);
    }

    private static void judge() {
        GloveRegret x = Check.three();
        check.due("1 0 2", judged(x, 1, 0, 2), NOT);
        check.due("1 9 2", judged(x, 1, 9, 2), NOT);
        check.due("none", judged(x), NOT);
        check.due("1", judged(x, 1), NOT);
        check.due("0", judged(x, 0), 0);
        check.due("9 2", judged(x, 9, 2), 1);
        check.due("1 0 1", judged(x, 1, 0, 1), 2);
        check.due("9 9 9 9", judged(x, 9, 9, 9, 9), 3);
        check.due("1 0 2 1", judged(x, 1, 0, 2, 1), 3);
        check.due("-7", judged(x, 9, -7), 1);
        x.mend(1, 5, 1);
        check.due("one GONE: 0 2", judged(x, 0, 2), NOT);
        check.due("one GONE: 0 2 9", judged(x, 0, 2, 9), 2);
        check.due("judge(6)", x.judge(6), BAD);
        check.due("judge(-1)", x.judge(-1), BAD);
        check.due("judge(1)", x.judge(1), -11);
        x.row(1, 4, 2);
        check.due("booleans", x.judge(1), -12);
        x.body(0);
        x.keep(1, 0);
        check.due("a hook", x.judge(1), -12);
        GloveRegret nine = new GloveRegret();
        for (int g = 0; g < 9; g++) {
            nine.guest(1, 7);
        }
        check.due("9 at most count", judged(nine, 0, 1, 2, 3, 4, 5, 6, 7, 8, 5, 5), NOT);
        check.due("the ninth", judged(nine, 0, 1, 2, 3, 4, 5, 6, 7, 0), 8);
    }

    private static void fits() {
        GloveRegret x = Check.three();
        Check.bytes(x, 0, 0);
        check.dueAll("the first went first", fitsAll(x, 0), 7, 3, 0, NOT, 75, 25);
        Check.bytes(x, 0, 1, 2);
        // one minute behind, 20 less FADES or 19 and 2 times LOOKS; READ 18 by the third
        check.dueAll("the third went ahead of the first", fitsAll(x, 0), 0, NOT, 7, 3, 19, 0);
        check.dueAll("the second all the same", fitsAll(x, 1), 0, NOT, 0, NOT, 0, NOT);
        Check.bytes(x, 0);
        check.dueAll("none seen", fitsAll(x, 2), 10, 0, 10, 0, 100, 0);
        x.mend(0, 5, 1);
        Check.bytes(x, 0, 1, 2);
        check.dueAll("one who is GONE", fitsAll(x, 0), 10, 0, 10, 0, 100, 0);
        check.due("fits(-1, 0, 0)", x.fits(-1, 0, 0), BAD);
        check.due("fits(6, 0, 0)", x.fits(6, 0, 0), BAD);
        check.due("fits(0, 3, 0)", x.fits(0, 3, 0), BAD);
        check.due("fits(0, 0, 6)", x.fits(0, 0, 6), BAD);
        check.due("fits(0, 0, -1)", x.fits(0, 0, -1), BAD);
        check.due("fits(1, 0, 0)", x.fits(1, 0, 0), -11);
        check.due("BAD ahead of -11", x.fits(1, 3, 0), BAD);
        x.row(1, 3, 1);
        check.due("longs", x.fits(1, 0, 0), -12);
    }

    private static long[] fitsAll(GloveRegret x, int guest) {
        long[] all = new long[6];
        for (int what = 0; what < 6; what++) {
            all[what] = x.fits(0, guest, what);
        }
        return all;
    }

    private static void upside() {
        GloveRegret x = Check.three();
        check.due("in order", x.upside(0), 0);
        x.mend(2, 0, 10);
        // READ 20, 25, 28 of REGRET 20, 30, 10
        check.due("the third ahead of both", x.upside(0), 2);
        check.due("none alike", x.upside(1), 0);
        x.mend(0, 0, 25);
        // READ 25, 25, 28 of REGRET 25, 30, 10: of like ones the first comes ahead, of less REGRET
        check.due("alike, the less sorry ahead", x.upside(0), 3);
        check.due("alike", x.upside(1), 1);
        x.mend(2, 0, 7);
        check.due("all alike", x.upside(1), 3);
        check.due("all alike: the first ahead of the second", x.upside(0), 1);
        x.mend(1, 5, 1);
        check.due("one GONE", x.upside(1), 1);
        check.due("one GONE: upside", x.upside(0), 0);
        check.due("upside(2)", x.upside(2), BAD);
        check.due("upside(-1)", x.upside(-1), BAD);
    }

    private static void byTurns() {
        GloveRegret x = Check.three();
        check.due("READ 24 is not enough", x.byTurns(1, 1, 0), -1);
        check.due("of like ones as he does", x.byTurns(1, 1, 1), 2);
        x.mend(0, 0, 21);
        check.due("READ 25 is", x.byTurns(1, 1, 0), 1);
        check.due("sorrier", x.byTurns(1, 1, 1), 0);
        check.due("the other one answers", x.byTurns(1, 2, 0), -1);
        check.due("then all the same", x.byTurns(1, 2, 1), 2);
        // 25 to 27, 25 to 27, 27 to 29
        check.due("and once more", x.byTurns(1, 3, 0), 1);
        check.due("sorrier again", x.byTurns(1, 3, 1), 0);
        check.due("the second first", x.byTurns(10, 1, 0), 1);
        check.due("unlike", x.byTurns(0, 1, 0), VOID);
        check.due("nobody", x.byTurns(3, 1, 0), VOID);
        check.due("nobody first", x.byTurns(31, 1, 0), VOID);
        check.due("ab -1", x.byTurns(-1, 1, 0), VOID);
        check.due("ab -10", x.byTurns(-10, 1, 0), VOID);
        check.due("n 0", x.byTurns(1, 0, 0), VOID);
        check.due("n 6", x.byTurns(1, 6, 0), VOID);
        check.due("what 2", x.byTurns(1, 1, 2), VOID);
        check.due("what -1", x.byTurns(1, 1, -1), VOID);
        x.mend(1, 5, 1);
        check.due("GONE", x.byTurns(1, 1, 0), VOID);
        check.due("GONE first", x.byTurns(10, 1, 0), VOID);
    }

    private static void byTurnsBothWays() {
        GloveRegret x = new GloveRegret();
        x.guest(1, 7);
        x.guest(1, 7);
        x.mend(0, 0, 50);
        x.mend(0, 1, 0);
        x.mend(1, 0, 52);
        x.mend(1, 1, 0);
        x.mend(0, 2, 8);
        Check.law(x, "r+l");
        x.mend(1, 2, 8);
        check.due("9 at most", x.byTurns(1, 1, 0), -1);
        Check.law(x, "r-l");
        check.due("less is better", x.byTurns(1, 1, 0), 1);
        check.due("less is better: 1", x.byTurns(1, 1, 1), 1);
        x.mend(0, 2, 1);
        x.mend(1, 2, 0);
        check.due("0 at least", x.byTurns(1, 1, 0), -1);
        // the one goes first only if his LOOKS are 3
        Check.law(x, "g=1?50;l=3?60");
        check.due("two steps, the other can't help it", x.byTurns(1, 1, 0), 1);
        check.due("two steps: 0", x.byTurns(1, 1, 1), 0);
        x.mend(0, 2, 3);
        check.due("as he does", x.byTurns(1, 1, 1), 2);
        check.due("the other one first, then the one goes back to 3", x.byTurns(10, 2, 0), -1);
    }

    private static void drawnWithoutWine() {
        GloveRegret x = Check.three();
        // behind 4 minutes 16, 22 and 0, READ 16, 17, 18
        check.due("REGRET of all", x.drawn(1, 30400, -1), 3 * 38);
        check.due("the third", x.drawn(1, 30400, 2), 3);
        check.due("the second", x.drawn(1, 30400, 1), 0);
        x.mend(2, 5, 1);
        x.mend(2, 0, 50);
        check.due("one who is GONE keeps his", x.drawn(1, 10400, -1), 88);
        check.due("and is not first", x.drawn(1, 10400, 2), 0);
        check.due("n 0", x.drawn(1, 400, -1), BAD);
        check.due("n 31", x.drawn(1, 310100, -1), BAD);
        check.due("m 0", x.drawn(1, 10000, -1), BAD);
        check.due("m 61", x.drawn(1, 16100, -1), BAD);
        check.due("WINE 13", x.drawn(1, 10113, -1), BAD);
        check.due("below 0", x.drawn(1, -10100, -1), BAD);
        check.due("guest 3", x.drawn(1, 10100, 3), BAD);
        check.due("guest -2", x.drawn(1, 10100, -2), BAD);
        check.due("the most of all", x.drawn(1, 306000, -1), 30 * 50);
        check.due("nobody at all", new GloveRegret().drawn(1, 306012, -1), 0);
    }

    private static void drawnWithWine() {
        for (int seed : new int[] {0, 5, -77, Integer.MAX_VALUE, Integer.MIN_VALUE}) {
            for (int wine = 0; wine <= 12; wine += 3) {
                GloveRegret x = Check.three();
                x.mend(1, 5, 1);
                x.slip(2, 3, 12);
                int z = seed;
                int all = 0;
                int thirdFirst = 0;
                for (int supper = 0; supper < 7; supper++) {
                    int[] regret = {20, 30, 0};
                    for (int minute = 0; minute < 11; minute++) {
                        z = z * 1103515245 + 12345;
                        int who = (z >>> 8) % 3;
                        if ((z >>> 24) % 12 < wine && who != 1) {
                            regret[who] = Math.min(99, regret[who] + 1 + (z >>> 16) % 20);
                        }
                        regret[0] = Math.max(0, regret[0] - 1);
                        regret[2] += minute == 3 ? 12 : 0;
                        regret[2] = Math.min(99, Math.max(0, regret[2] - 1));
                    }
                    all += regret[0] + regret[1] + regret[2];
                    thirdFirst += Math.min(99, regret[2] + 18) > regret[0] ? 1 : 0;
                }
                String call = "drawn by " + seed + ", " + wine;
                check.due(call, x.drawn(seed, 71100 + wine, -1), all);
                check.due(call + ", the third", x.drawn(seed, 71100 + wine, 2), thirdFirst);
                check.due(call + ", the first", x.drawn(seed, 71100 + wine, 0), 7 - thirdFirst);
            }
        }
    }
}
