/** Boundary cases of promise 23, by draws that were worked out by hand. */
final class DrawnEdges {
    private static final int BAD = GloveRegret.BAD;
    private static final int MIN = Integer.MIN_VALUE, MAX = Integer.MAX_VALUE;

    static void all(Edges e) {
        told(e);
        seeds(e);
        most(e);
        wine(e);
        gone(e);
    }

    private static GloveRegret guests(int fades, int... regrets) {
        GloveRegret x = new GloveRegret();
        for (int g = 0; g < regrets.length; g++) {
            x.guest(1, 7);
            x.mend(g, 0, regrets[g]);
            x.mend(g, 1, fades);
        }
        return x;
    }

    private static void told(Edges e) {
        e.says(23,
            "DRAWN (nmw: 10000 n, 100 m, and WINE): how often a told one is first, REGRET of all (guest -1). BAD.");
        GloveRegret x = guests(1, 99, 0);
        e.dueEach("n too small", BAD, x.drawn(1, 100, -1), x.drawn(1, 6012, -1), x.drawn(1, 0, -1));
        e.dueEach("n too large", BAD, x.drawn(1, 310100, -1), x.drawn(1, 1000100, -1), x.drawn(1, MAX, -1));
        e.dueEach("m too small", BAD, x.drawn(1, 10000, -1), x.drawn(1, 10012, 0), x.drawn(1, 300000, -1));
        e.dueEach("m too large", BAD, x.drawn(1, 16100, -1), x.drawn(1, 19900, -1), x.drawn(1, 306100, 0));
        e.dueEach("WINE too large", BAD, x.drawn(1, 10113, -1), x.drawn(1, 10199, -1), x.drawn(1, 306013, 0));
        e.dueEach("below 0", BAD, x.drawn(1, -1, -1), x.drawn(1, -10100, -1), x.drawn(1, -306012, -1),
            x.drawn(1, MIN, -1));
        e.dueEach("no such guest", BAD, x.drawn(1, 10100, -2), x.drawn(1, 10100, 2), x.drawn(1, 10100, 9),
            x.drawn(1, 10100, MIN), x.drawn(1, 10100, MAX));
        e.due("nobody at all is no such guest", new GloveRegret().drawn(1, 10100, 0), BAD);
        e.dueEach("REGRET of nobody", 0, new GloveRegret().drawn(1, 10100, -1), new GloveRegret().drawn(1, 306012, -1));
        e.says(Edges.TERMS, "DRAWN: n suppers (1 .. 30) of m MINUTES (1 .. 60) from now by a SEED");
        e.due("one supper of one MINUTE", x.drawn(1, 10100, -1), 98);
        e.due("one of 60", x.drawn(1, 16000, -1), 39);
        e.due("30 of one", x.drawn(1, 300100, -1), 30 * 98);
        e.due("30 of 60", x.drawn(1, 306000, -1), 30 * 39);
        e.due("how often, one", x.drawn(1, 10100, 0), 1);
        e.due("how often, 30", x.drawn(1, 306000, 0), 30);
        e.due("how often, the other", x.drawn(1, 306000, 1), 0);
        e.dueAll("nothing comes of it", new long[] {x.of(0, 0), x.of(0, 8), x.count(1), x.led(1)}, 99, 0, 0, 0);
    }

    private static void seeds(Edges e) {
        e.says(Edges.TERMS, "z = z * 1103515245 + 12345 (an int; SEED at first) ahead of each MINUTE");
        GloveRegret x = guests(1, 10);
        // (z >>> 16) % 20 is 0, 18, 16, 17, 9 in the first MINUTE of these
        e.due("SEED 0", x.drawn(0, 10112, -1), 10);
        e.due("SEED 1", x.drawn(1, 10112, -1), 28);
        e.due("SEED 2, z is below 0", x.drawn(2, 10112, -1), 26);
        e.due("SEED -1", x.drawn(-1, 10112, -1), 27);
        e.due("SEED MAX, z wraps", x.drawn(MAX, 10112, -1), 19);
        // 0, 16, 16 by SEED 0
        e.due("two MINUTES", x.drawn(0, 10212, -1), 26);
        e.due("three MINUTES", x.drawn(0, 10312, -1), 42);
        e.due("two suppers: the second goes on with z", x.drawn(0, 20112, -1), 10 + 26);
        e.due("three suppers", x.drawn(0, 30112, -1), 10 + 26 + 26);
        e.due("the same once more", x.drawn(0, 30112, -1), 10 + 26 + 26);
    }

    private static void most(Edges e) {
        e.says(Edges.TERMS, "(REGRET so much more, 99 at most, if he is not GONE)");
        // 19 more by SEED 1
        e.due("79", guests(0, 79).drawn(1, 10112, -1), 98);
        e.due("80", guests(0, 80).drawn(1, 10112, -1), 99);
        e.due("81", guests(0, 81).drawn(1, 10112, -1), 99);
        e.due("99", guests(0, 99).drawn(1, 10112, -1), 99);
        // held within 99 ahead of the MINUTE, which then takes FADES
        e.due("99 less 1", guests(1, 99).drawn(1, 10112, -1), 98);
        e.due("99 less 9", guests(9, 99).drawn(1, 10112, -1), 90);
        GloveRegret slipped = guests(9, 99);
        slipped.slip(0, 0, 5);
        e.due("99 and a true SLIP of 5 less 9", slipped.drawn(1, 10112, -1), 95);
    }

    private static void wine(Edges e) {
        e.says(Edges.TERMS, "is below WINE (0 .. 12, told)");
        // (z >>> 24) % 12 is 0, 5, 11, 10 in the first MINUTE of these
        GloveRegret x = guests(1, 10);
        e.due("0 is not below 0", x.drawn(0, 10100, -1), 9);
        e.due("0 is below 1", x.drawn(0, 10101, -1), 10);
        e.due("5 is not below 5", x.drawn(1, 10105, -1), 9);
        e.due("5 is below 6", x.drawn(1, 10106, -1), 28);
        e.due("11 is not below 11", x.drawn(2, 10111, -1), 9);
        e.due("11 is below 12", x.drawn(2, 10112, -1), 26);
        e.due("10 is not below 10", x.drawn(-1, 10110, -1), 9);
        e.due("10 is below 11", x.drawn(-1, 10111, -1), 27);
        e.due("z goes on without wine, too", x.drawn(0, 10207, -1), 9);
        e.due("and 7 is below 8", x.drawn(0, 10208, -1), 26);
    }

    private static void gone(Edges e) {
        e.says(Edges.TERMS, "GUEST (z >>> 8) % how many slips by 1 and (z >>> 16) % 20");
        GloveRegret x = guests(0, 10, 10, 10);
        // it is the third of three by SEED 1, the second of two by SEED 2
        e.due("the third is first", x.drawn(1, 10112, 2), 1);
        e.due("and nobody else", x.drawn(1, 10112, 0), 0);
        e.due("without wine the least is", x.drawn(1, 10100, 0), 1);
        e.due("REGRET of all", x.drawn(1, 10112, -1), 49);
        x.mend(0, 5, 1);
        e.due("those who are GONE are counted", x.drawn(1, 10112, 2), 1);
        e.due("REGRET of all, GONE too", x.drawn(1, 10112, -1), 49);
        x.mend(2, 5, 1);
        e.due("one who is GONE does not slip", x.drawn(1, 10112, -1), 30);
        e.due("and is not first", x.drawn(1, 10112, 2), 0);
        x.mend(1, 5, 1);
        e.dueEach("all are GONE: nobody is first", 0, x.drawn(1, 300112, 0), x.drawn(1, 300112, 1), x.drawn(1, 300112,
            2));
        e.due("all are GONE: REGRET stays", x.drawn(1, 300112, -1), 900);
        GloveRegret nine = guests(0, 1, 2, 3, 4, 5, 6, 7, 8, 99);
        e.due("REGRET of nine", nine.drawn(1, 306000, -1), 30 * 135);
        e.due("the last of nine is first", nine.drawn(1, 306000, 8), 30);
        GloveRegret two = guests(0, 10, 10);
        e.due("the second of two", two.drawn(2, 10112, 1), 1);
        e.due("the first of two", two.drawn(1, 10112, 0), 1);
    }
}
