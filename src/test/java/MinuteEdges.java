/** Boundary cases of A MINUTE, of THE ORDER and of who goes. */
final class MinuteEdges {
    static void all(Edges e) {
        moreBySlips(e);
        lessByFades(e);
        lastMinute(e);
        order(e);
        oneGoes(e);
    }

    /** REGRET behind one MINUTE, by REGRET, FADES and the WEIGHTS of SLIPS now. */
    private static int behindOne(int regret, int fades, int... weights) {
        GloveRegret x = new GloveRegret();
        x.guest(1, 7);
        x.mend(0, 0, regret);
        x.mend(0, 1, fades);
        for (int weight : weights) {
            x.slip(0, 0, weight);
        }
        int inThought = x.later(1, 0, 1);
        x.minute();
        return x.of(0, 0) == inThought ? inThought : GloveRegret.VOID;
    }

    private static void moreBySlips(Edges e) {
        e.says(Edges.TERMS, "REGRET of each who is not GONE is more by WEIGHT of each of his SLIPS AT this MINUTE");
        GloveRegret x = new GloveRegret();
        for (int g = 0; g < 3; g++) {
            x.guest(1, 7);
            x.mend(g, 0, 20);
            x.mend(g, 1, g == 2 ? 1 : 0);
        }
        x.slip(0, 1, 5);
        x.slip(0, 1, 6);
        x.slip(0, 2, 7);
        x.slip(2, 1, 30);
        x.mend(2, 5, 1);
        int[] due = {20, 20, 31, 38, 38};
        for (int n = 0; n < due.length; n++) {
            e.due("his, behind " + n, x.later(n, 0, 1), due[n]);
            e.due("one who did not slip, behind " + n, x.later(n, 1, 1), 20);
            e.due("one who is GONE, behind " + n, x.later(n, 2, 1), 20);
        }
        x.mend(0, 8, 3);
        e.due("a MINUTE that is over does not come again", x.later(60, 0, 1), 20);
        e.due("twelve at once", behindOne(0, 0, 1, 2, 3, 4, 5, 6, 7, 8, 9, 10, 11, 12), 78);
        e.due("none", behindOne(7, 0), 7);
    }

    private static void lessByFades(Edges e) {
        e.says(Edges.TERMS, "then less by FADES (within 0 .. 99 at once)");
        e.dueEach("0 stays 0", 0, behindOne(0, 0), behindOne(0, 1), behindOne(0, 9), behindOne(1, 1), behindOne(9, 9),
            behindOne(5, 9), behindOne(0, 9, 5), behindOne(0, 9, 9));
        e.dueEach("1 is left", 1, behindOne(1, 0), behindOne(2, 1), behindOne(10, 9), behindOne(0, 9, 10));
        e.dueEach("98", 98, behindOne(99, 1), behindOne(97, 4, 5), behindOne(50, 9, 28, 29), behindOne(98, 9, 9));
        e.dueEach("99 at most", 99, behindOne(99, 0), behindOne(98, 0, 1), behindOne(98, 0, 30), behindOne(99, 0, 1),
            behindOne(50, 0, 30, 30, 30));
        // more and less are one: what is above 99 in between is not lost
        e.dueEach("99, more and less", 99, behindOne(99, 1, 1), behindOne(99, 9, 9), behindOne(99, 9, 10),
            behindOne(90, 9, 30), behindOne(50, 9, 29, 29), behindOne(50, 9, 30, 30), behindOne(99, 9, 30, 30));
        e.due("99 and 5 less 9", behindOne(99, 9, 5), 95);
    }

    private static void lastMinute(Edges e) {
        e.says(Edges.TERMS, "MINUTE is one more (199 stays).");
        GloveRegret x = new GloveRegret();
        x.guest(1, 7);
        x.mend(0, 1, 0);
        x.slip(0, 199, 2);
        x.mend(0, 8, 197);
        int[] minutes = {198, 199, 199, 199};
        int[] regrets = {0, 0, 2, 4};
        for (int i = 0; i < minutes.length; i++) {
            e.due("in thought, behind " + (i + 1), x.later(i + 1, 0, 1), regrets[i]);
        }
        for (int i = 0; i < minutes.length; i++) {
            e.due("minute()", x.minute(), minutes[i]);
            e.due("MINUTE", x.of(0, 8), minutes[i]);
            e.due("a SLIP AT 199 comes each time", x.of(0, 0), regrets[i]);
        }
        e.due("they are led all the same", x.led(1), 4);
        e.due("goes() passes one, too", x.goes(), 0);
        e.due("199 still", x.of(0, 8), 199);
        e.due("from 0 to 1", new GloveRegret().minute(), 1);
    }

    private static void order(Edges e) {
        e.says(Edges.TERMS,
            "THE ORDER: those not GONE, by how they are READ, the sorriest first (of like ones the least).");
        GloveRegret x = new GloveRegret();
        for (int g = 0; g < 9; g++) {
            x.guest(1, 7);
            e.due("like ones: place of the latest", x.later(0, g, 2), g);
            e.due("like ones: first", x.first(0), 0);
        }
        x.mend(8, 0, 1);
        e.due("the last one, sorrier by one", x.later(0, 8, 2), 0);
        e.due("is first", x.first(0), 8);
        e.due("the least is behind him", x.later(0, 0, 2), 1);
        x.mend(8, 5, 1);
        x.mend(0, 5, 1);
        e.due("those who are GONE have none", x.later(0, 8, 2), GloveRegret.NOT);
        e.due("the least of those left", x.first(0), 1);
        e.due("its place", x.later(0, 1, 2), 0);
        e.due("the last place", x.later(0, 7, 2), 6);
    }

    private static void oneGoes(Edges e) {
        e.says(Edges.TERMS, "ONE GOES: the first of THE ORDER is GONE (his glove given back), then a MINUTE passes.");
        GloveRegret x = new GloveRegret();
        x.guest(1, 7);
        x.guest(0, 7);
        x.mend(0, 0, 30);
        x.mend(1, 0, 20);
        x.slip(0, 0, 9);
        x.slip(1, 0, 9);
        e.due("one pair", x.pairs(0), 1);
        e.due("goes()", x.goes(), 0);
        e.due("he is GONE", x.of(0, 5), 1);
        e.due("he has neither his SLIP nor his FADES", x.of(0, 0), 30);
        e.due("the other one has both", x.of(1, 0), 28);
        e.due("MINUTE", x.of(0, 8), 1);
        e.due("his glove is given back", x.pairs(0), 0);
        e.due("one is over", x.pairs(1), 1);
        e.due("the last one goes", x.goes(), 1);
        e.due("with 28", x.of(1, 0), 28);
        e.due("a MINUTE passes behind the last one, too", x.of(0, 8), 2);
    }
}
