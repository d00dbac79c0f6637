/** Promises 9 to 17, worked out by hand. */
public final class ThoughtTest {
    private static final int BAD = GloveRegret.BAD, NOT = GloveRegret.NOT, STATE = GloveRegret.STATE;
    private static final Check check = new Check();

    public static void main(String[] args) {
        later();
        minutesPass();
        lastMinute();
        first();
        peak();
        goesAsAndWhen();
        waits();
        sorry();
        slipWhen();
        held();
        nothingChanges();
        check.end();
    }

    private static void later() {
        GloveRegret x = Check.three();
        int[][] now = {{20, 20, 1}, {25, 30, 0}, {18, 0, 2}};
        // the first two are READ alike behind 5
        int[][] behind5 = {{15, 15, 1}, {15, 20, 2}, {18, 0, 0}};
        for (int g = 0; g < 3; g++) {
            for (int what = 0; what < 3; what++) {
                check.due("later(0, " + g + ", " + what + ")", x.later(0, g, what), now[g][what]);
                check.due("later(5, " + g + ", " + what + ")", x.later(5, g, what), behind5[g][what]);
            }
        }
        check.due("later(-1, 0, 0)", x.later(-1, 0, 0), BAD);
        check.due("later(61, 0, 0)", x.later(61, 0, 0), BAD);
        check.due("later(60, 0, 1)", x.later(60, 0, 1), 0);
        check.due("later(0, 3, 0)", x.later(0, 3, 0), BAD);
        check.due("later(0, -1, 0)", x.later(0, -1, 0), BAD);
        check.due("later(0, 0, 3)", x.later(0, 0, 3), BAD);
        check.due("later(0, 0, -1)", x.later(0, 0, -1), BAD);
        x.mend(1, 5, 1);
        check.due("GONE: place", x.later(0, 1, 2), NOT);
        check.due("GONE: REGRET stays", x.later(9, 1, 1), 30);
        check.due("GONE: READ", x.later(9, 1, 0), 25);
        check.due("another's place", x.later(0, 0, 2), 0);
    }

    private static void minutesPass() {
        GloveRegret x = new GloveRegret();
        x.guest(1, 7);
        x.guest(1, 7);
        x.slip(0, 2, 10);
        x.slip(0, 2, 7);
        x.slip(1, 2, 30);
        x.slip(0, 3, 1);
        int[] due = {0, 0, 0, 16, 16, 15, 14};
        for (int n = 0; n < due.length; n++) {
            check.due("REGRET behind " + n, x.later(n, 0, 1), due[n]);
        }
        x.mend(0, 0, 95);
        x.mend(0, 1, 0);
        check.due("99 at most", x.later(3, 0, 1), 99);
        // 95, less 1, 1, then 93 + 17 - 1, held within 99 in one go, then 99 + 1 - 1
        x.mend(0, 1, 1);
        check.due("more and less in one go", x.later(3, 0, 1), 99);
        check.due("and once more", x.later(4, 0, 1), 99);
        check.due("then less", x.later(5, 0, 1), 98);
        x.mend(0, 0, 3);
        x.mend(0, 1, 9);
        check.due("0 at least", x.later(1, 0, 1), 0);
        check.due("from 0 on", x.later(3, 0, 1), 8);
    }

    private static void lastMinute() {
        GloveRegret x = new GloveRegret();
        x.guest(1, 7);
        x.mend(0, 8, 198);
        x.slip(0, 198, 5);
        x.slip(0, 199, 3);
        int[] due = {0, 4, 6, 8, 10};
        for (int n = 0; n < due.length; n++) {
            check.due("199 stays, behind " + n, x.later(n, 0, 1), due[n]);
        }
    }

    private static void first() {
        GloveRegret x = Check.three();
        check.due("first(-1)", x.first(-1), BAD);
        check.due("first(61)", x.first(61), BAD);
        check.due("first(0)", x.first(0), 1);
        // 3: 17, 19, 18; 4: 16, 17, 18
        check.due("first(3)", x.first(3), 1);
        check.due("first(4)", x.first(4), 2);
        check.due("first(60)", x.first(60), 2);
        for (int g = 0; g < 3; g++) {
            x.mend(g, 5, 1);
        }
        check.due("nobody", x.first(0), NOT);
        GloveRegret alike = new GloveRegret();
        alike.guest(1, 7);
        alike.guest(1, 7);
        check.due("of like ones the least", alike.first(0), 0);
    }

    private static void peak() {
        GloveRegret x = Check.three();
        check.due("peak(0, 0)", x.peak(0, 0), 0);
        check.due("peak(0, 1)", x.peak(0, 1), 20);
        x.slip(2, 4, 7);
        x.slip(2, 20, 7);
        check.due("of like ones the least", x.peak(2, 0), 5);
        check.due("peak(2, 1)", x.peak(2, 1), 6);
        x.mend(1, 6, 59);
        x.mend(1, 7, 30);
        check.due("behind 60", x.peak(2, 0), 60);
        check.due("behind 60: that", x.peak(2, 1), 29);
        x.mend(1, 6, 60);
        check.due("behind 61 is too late", x.peak(2, 0), 5);
        x.mend(2, 5, 1);
        check.due("GONE", x.peak(2, 1), 0);
        check.due("peak(3, 0)", x.peak(3, 0), BAD);
        check.due("peak(-1, 0)", x.peak(-1, 0), BAD);
        check.due("peak(0, 2)", x.peak(0, 2), BAD);
        check.due("peak(0, -1)", x.peak(0, -1), BAD);
    }

    private static void goesAsAndWhen() {
        check.due("goesWhen ahead of all other thoughts", Check.three().goesWhen(0, 0), 1);
        GloveRegret x = Check.three();
        int[] now = {1, 0, 2};
        int[] behind5 = {2, 0, 1};
        for (int k = 0; k < 3; k++) {
            check.due("goesAs(0, " + k + ")", x.goesAs(0, k), now[k]);
            check.due("goesWhen(0, " + now[k] + ")", x.goesWhen(0, now[k]), k);
            check.due("goesAs(5, " + k + ")", x.goesAs(5, k), behind5[k]);
            check.due("goesWhen(5, " + behind5[k] + ")", x.goesWhen(5, behind5[k]), 5 + k);
        }
        check.due("goesAs(0, 3)", x.goesAs(0, 3), NOT);
        check.due("goesAs(0, MAX)", x.goesAs(0, Integer.MAX_VALUE), NOT);
        check.due("goesAs(0, -1)", x.goesAs(0, -1), BAD);
        check.due("goesAs(-1, 0)", x.goesAs(-1, 0), BAD);
        check.due("goesAs(61, 0)", x.goesAs(61, 0), BAD);
        check.due("goesAs(60, 0)", x.goesAs(60, 0), 2);
        check.due("goesWhen(0, 3)", x.goesWhen(0, 3), BAD);
        check.due("goesWhen(61, 0)", x.goesWhen(61, 0), BAD);
        x.mend(0, 5, 1);
        check.due("GONE: goesWhen", x.goesWhen(0, 0), NOT);
        check.due("GONE: BAD ahead", x.goesWhen(61, 0), BAD);
        check.due("GONE: goesAs(0, 1)", x.goesAs(0, 1), 2);
        check.due("GONE: goesAs(0, 2)", x.goesAs(0, 2), NOT);
        // a slip at minute 0 comes when the first has gone: 20 + 5 - 1 is less than 25, 18 + 8 - 1 is more than 24
        GloveRegret slipped = Check.three();
        slipped.slip(0, 0, 5);
        slipped.slip(2, 0, 8);
        check.due("slips while they go", slipped.goesAs(0, 1), 2);
        check.due("slips while they go, then", slipped.goesAs(0, 2), 0);
    }

    private static void waits() {
        GloveRegret x = Check.three();
        check.due("waits(0)", x.waits(0), 3);
        check.due("waits(5)", x.waits(5), 18);
        check.due("waits(60)", x.waits(60), 183);
        check.due("waits(61)", x.waits(61), BAD);
        check.due("waits(-1)", x.waits(-1), BAD);
        x.mend(2, 5, 1);
        check.due("one is GONE", x.waits(5), 11);
    }

    private static void sorry() {
        GloveRegret x = Check.three();
        check.due("sorry(2, 0)", x.sorry(2, 0), NOT);
        check.due("sorry(2, 1)", x.sorry(2, 1), NOT);
        check.due("sorry(2, 2)", x.sorry(2, 2), 0);
        check.due("sorry(0, 0)", x.sorry(0, 0), 3);
        check.due("sorry(0, 1)", x.sorry(0, 1), 0);
        check.due("sorry(1, 0)", x.sorry(1, 0), 0);
        check.due("sorry(0, 8)", x.sorry(0, 8), 0);
        check.due("sorry(0, 9)", x.sorry(0, 9), BAD);
        check.due("sorry(0, -1)", x.sorry(0, -1), BAD);
        check.due("sorry(3, 0)", x.sorry(3, 0), BAD);
        x.mend(0, 5, 1);
        check.due("GONE", x.sorry(0, 8), NOT);
        check.due("GONE: BAD ahead", x.sorry(0, 9), BAD);
    }

    private static void slipWhen() {
        GloveRegret x = Check.three();
        // READ 18 as long as he has not slipped; behind 3 minutes the others are READ 17, 19
        check.due("slipWhen(2, 303, 0)", x.slipWhen(2, 303, 0), 2);
        check.due("slipWhen(2, 303, 1)", x.slipWhen(2, 303, 1), 0);
        check.due("slipWhen(2, 1003, 0)", x.slipWhen(2, 1003, 0), 0);
        check.due("slipWhen(2, 1003, 1)", x.slipWhen(2, 1003, 1), 0);
        check.due("slipWhen(2, 1000, 0)", x.slipWhen(2, 1000, 0), 0);
        check.due("slipWhen(2, 1000, 1)", x.slipWhen(2, 1000, 1), 1);
        check.due("weight 0", x.slipWhen(2, 3, 0), BAD);
        check.due("weight 31", x.slipWhen(2, 3100, 0), BAD);
        check.due("n 31", x.slipWhen(2, 131, 0), BAD);
        check.due("n 30", x.slipWhen(2, 130, 1), 0);
        check.due("wn -101", x.slipWhen(2, -101, 0), BAD);
        check.due("what 2", x.slipWhen(2, 303, 2), BAD);
        check.due("nobody", x.slipWhen(3, 303, 0), BAD);
        x.mend(0, 8, 198);
        check.due("beyond 199 it never comes", x.slipWhen(2, 303, 1), 0);
        check.due("at 199 it comes again and again", x.slipWhen(2, 303, 0), 1);
        x.mend(0, 8, 0);
        for (int s = 0; s < 12; s++) {
            x.slip(0, 150, 1);
        }
        check.due("twelve are kept, one more is thought of", x.slipWhen(2, 303, 0), 2);
        check.due("none came", x.count(1), 12);
        x.mend(2, 5, 1);
        check.due("GONE", x.slipWhen(2, 303, 0), STATE);
        check.due("GONE: BAD ahead", x.slipWhen(2, 131, 0), BAD);
    }

    private static void held() {
        GloveRegret x = Check.three();
        // none: 30 + 19 + 0; the first: 30 + 0 + 18; the second: 20 + 0 + 26; the third: as none
        check.due("held(0)", x.held(0), 1);
        check.due("held(1)", x.held(1), 46);
        check.due("held(2)", x.held(2), BAD);
        check.due("held(-1)", x.held(-1), BAD);
        x.mend(1, 5, 1);
        // none: 20 + 0; the first: 0 + 19
        check.due("one GONE: held(0)", x.held(0), 0);
        check.due("one GONE: held(1)", x.held(1), 19);
        x.mend(0, 5, 1);
        check.due("one left: held(0)", x.held(0), 9);
        check.due("one left: held(1)", x.held(1), 0);
        GloveRegret alike = new GloveRegret();
        for (int g = 0; g < 3; g++) {
            alike.guest(1, 7);
            alike.mend(g, 0, 10);
        }
        alike.mend(0, 1, 3);
        alike.mend(1, 1, 3);
        // none: 10 + 9 + 4: the third is READ 9 when the second is READ 7; the first or the second: 10 + 9 + 4
        check.due("of like ones none", alike.held(0), 9);
        check.due("of like ones none: that", alike.held(1), 23);
    }

    private static void nothingChanges() {
        GloveRegret x = Check.three();
        x.slip(0, 1, 5);
        Check.bytes(x, 0, 1, 0, 2);
        String before = Check.seen(x);
        x.later(60, 0, 0);
        x.first(60);
        x.peak(0, 0);
        x.goesAs(9, 1);
        x.goesWhen(9, 1);
        x.sorry(2, 0);
        x.slipWhen(2, 303, 0);
        x.held(0);
        x.fits(0, 1, 4);
        x.byTurns(1, 5, 0);
        x.drawn(3, 303012, -1);
        check.due("a thought changes nothing", before.equals(Check.seen(x)) ? 1 : 0, 1);
    }
}
