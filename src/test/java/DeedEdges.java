/** Boundary cases of promises 24 to 32: deeds, what is led, AN IMAGE, CHANGES. */
final class DeedEdges {
    private static final int BAD = GloveRegret.BAD, NOT = GloveRegret.NOT;
    private static final int FULL = GloveRegret.FULL, STATE = GloveRegret.STATE;
    private static final int MIN = Integer.MIN_VALUE, MAX = Integer.MAX_VALUE;

    static void all(Edges e) {
        slips(e);
        minute(e);
        goes(e);
        looks(e);
        led(e);
        image(e);
        back(e);
        undo(e);
        redo(e);
        sameNumberIsNoChange(e);
        noOtherCameBehind(e);
        fortyAreKept(e);
        deedsAreNone(e);
    }

    private static long[] led5(GloveRegret x) {
        return new long[] {x.led(0), x.led(1), x.led(2), x.led(3), x.led(4)};
    }

    private static void slips(Edges e) {
        e.says(24, "One slips now: the SLIP's number. BAD; FULL; STATE: he is GONE.");
        GloveRegret x = new GloveRegret();
        e.due("nobody at all", x.slips(0, 1), BAD);
        x.guest(1, 7);
        x.guest(1, 7);
        e.dueEach("no such guest", BAD, x.slips(-1, 1), x.slips(2, 1), x.slips(9, 1), x.slips(MIN, 1), x.slips(MAX, 1));
        e.dueEach("weight too small", BAD, x.slips(0, 0), x.slips(0, -1), x.slips(0, MIN));
        e.dueEach("weight too large", BAD, x.slips(0, 31), x.slips(0, MAX));
        x.mend(1, 5, 1);
        e.due("GONE", x.slips(1, 1), STATE);
        e.dueEach("BAD ahead of STATE", BAD, x.slips(1, 0), x.slips(1, 31));
        e.dueAll("none came, none is led", new long[] {x.count(1), x.led(0)}, 0, 0);
        x.mend(0, 8, 199);
        e.due("the least", x.slips(0, 1), 0);
        e.due("the most", x.slips(0, 30), 1);
        e.dueAll("the most, AT 199", new long[] {x.of(1, 9), x.of(1, 6), x.of(1, 7)}, 0, 199, 30);
        for (int s = 2; s < 12; s++) {
            e.due("slips " + s, x.slips(0, 5), s);
        }
        e.due("FULL", x.slips(0, 1), FULL);
        e.due("FULL ahead of STATE", x.slips(1, 1), FULL);
        e.dueEach("BAD ahead of FULL", BAD, x.slips(2, 1), x.slips(0, 0), x.slips(1, 31));
        e.dueAll("twelve came, twelve are led", new long[] {x.count(1), x.led(0)}, 12, 12);
    }

    private static void minute(Edges e) {
        e.says(25, "A MINUTE passes: MINUTE then.");
        GloveRegret x = new GloveRegret();
        for (int i = 1; i <= 203; i++) {
            e.due("minute " + i, x.minute(), Math.min(199, i));
        }
        e.due("all are led", x.led(1), 203);
        GloveRegret y = Check.three();
        for (int g = 0; g < 3; g++) {
            y.mend(g, 5, 1);
        }
        e.due("one passes though nobody is left", y.minute(), 1);
    }

    private static void goes(Edges e) {
        e.says(26, "ONE GOES: who. NOT: nobody is left (no MINUTE passes).");
        GloveRegret x = new GloveRegret();
        e.due("nobody at all", x.goes(), NOT);
        e.dueAll("no MINUTE", new long[] {x.of(0, 8), x.led(1), x.led(2)}, 0, 0, 0);
        x.guest(1, 7);
        x.mend(0, 0, 99);
        e.due("the only one", x.goes(), 0);
        e.due("nobody is left", x.goes(), NOT);
        e.dueAll("one MINUTE", new long[] {x.of(0, 8), x.led(1), x.led(2), x.led(4)}, 1, 1, 1, 99);
        x.mend(0, 5, 0);
        e.due("he is back by mend()", x.goes(), 0);
        e.dueAll("and went again", led5(x), 0, 2, 2, 0, 198);
        GloveRegret nine = new GloveRegret();
        for (int g = 0; g < 9; g++) {
            nine.guest(1, 7);
        }
        for (int g = 0; g < 9; g++) {
            e.due("of nine like ones", nine.goes(), g);
        }
        e.due("no tenth", nine.goes(), NOT);
        e.due("MINUTE", nine.of(0, 8), 9);
    }

    private static void looks(Edges e) {
        e.says(27, "One LOOKS otherwise (0 .. 9): what LOOKS was. BAD; STATE: he is GONE.");
        GloveRegret x = Check.three();
        e.dueEach("v too small", BAD, x.looks(2, -1), x.looks(2, MIN));
        e.dueEach("v too large", BAD, x.looks(2, 10), x.looks(2, MAX));
        e.dueEach("no such guest", BAD, x.looks(-1, 1), x.looks(3, 1), x.looks(9, 1), x.looks(MIN, 1), x.looks(MAX, 1));
        e.due("none is led", x.led(3), 0);
        e.due("least", x.looks(2, 0), 9);
        e.due("most", x.looks(2, 9), 0);
        e.due("LOOKS", x.of(2, 2), 9);
        x.mend(2, 5, 1);
        e.dueEach("GONE", STATE, x.looks(2, 0), x.looks(2, 9));
        e.dueEach("BAD ahead of STATE", BAD, x.looks(2, -1), x.looks(2, 10));
        e.dueAll("still so, two are led", new long[] {x.of(2, 2), x.led(3)}, 9, 2);
    }

    private static void led(Edges e) {
        e.says(28, "LED: slips (what 0), MINUTES (1), gone (2), LOOKS (3), REGRET as they went (4). BAD.");
        GloveRegret x = Check.three();
        e.dueEach("no such what", BAD, x.led(-1), x.led(5), x.led(6), x.led(MIN), x.led(MAX));
        e.dueAll("at first", led5(x), 0, 0, 0, 0, 0);
        x.slips(1, 30);
        e.dueAll("a slip", led5(x), 1, 0, 0, 0, 0);
        x.minute();
        e.dueAll("a MINUTE", led5(x), 1, 1, 0, 0, 0);
        x.looks(0, 1);
        e.dueAll("LOOKS", led5(x), 1, 1, 0, 1, 0);
        x.goes();
        e.dueAll("gone with 58, and a MINUTE", led5(x), 1, 2, 1, 1, 58);
        x.goes();
        e.dueAll("and with 18", led5(x), 1, 3, 2, 1, 76);
        x.undo();
        x.redo();
        x.mend(0, 5, 0);
        x.mend(0, 2, 5);
        x.mend(0, 8, 99);
        x.slip(0, 5, 5);
        e.dueAll("by deeds alone", led5(x), 1, 3, 2, 1, 76);
    }

    private static void image(Edges e) {
        e.says(29, "AN IMAGE is kept: gone.");
        GloveRegret x = new GloveRegret();
        e.due("of an empty tray", x.image(), 0);
        e.due("laid back", x.back(), 0);
        GloveRegret y = Check.three();
        e.due("none yet", y.image(), 0);
        y.goes();
        y.goes();
        e.due("two", y.image(), 2);
        y.goes();
        e.due("the later image is laid back", y.back(), 2);
        e.due("not the earlier one", y.led(2), 2);
        e.says(Edges.TERMS, "AN IMAGE keeps REGRET, LOOKS, GONE of GUESTS, MINUTE, what LED tells.");
        GloveRegret z = Check.three();
        z.slips(0, 4);
        z.minute();
        z.image();
        String before = Check.seen(z);
        z.minute();
        e.due("goes()", z.goes(), 0);
        e.due("looks(2, 1)", z.looks(2, 1), 9);
        e.due("back()", z.back(), 0);
        e.due("all is as it was", before.equals(Check.seen(z)) ? 1 : 0, 1);
    }

    private static void back(Edges e) {
        e.says(30, "STATE: there is none.");
        GloveRegret x = Check.three();
        e.dueEach("none", STATE, x.back(), x.back());
        x.image();
        e.dueEach("again and again", 0, x.back(), x.back(), x.back());
        e.says(30, "It is laid back (GUESTS, SLIPS that came since as they are): gone.");
        x.guest(0, 5);
        x.mend(3, 0, 77);
        x.mend(3, 2, 7);
        x.mend(3, 5, 1);
        x.slips(1, 4);
        x.slip(3, 100, 6);
        x.mend(0, 0, 66);
        x.mend(0, 1, 5);
        x.mend(0, 3, 0);
        x.mend(0, 4, 9);
        x.mend(0, 5, 1);
        x.mend(0, 8, 150);
        int changes = x.count(3);
        e.due("back()", x.back(), 0);
        e.dueAll("the guest that came", new long[] {x.of(3, 0), x.of(3, 2), x.of(3, 5), x.of(3, 3), x.of(3, 4)}, 77, 7,
            1, 0, 5);
        e.dueAll("the slips that came", new long[] {x.count(1), x.of(0, 7), x.of(1, 6)}, 2, 4, 100);
        e.dueAll("what it keeps", new long[] {x.of(0, 0), x.of(0, 2), x.of(0, 5), x.of(0, 8)}, 20, 0, 0, 0);
        e.dueAll("what it does not keep", new long[] {x.of(0, 1), x.of(0, 3), x.of(0, 4)}, 5, 0, 9);
        e.dueAll("LED", led5(x), 0, 0, 0, 0, 0);
        e.due("CHANGES are as they are", x.count(3), changes);
        e.due("the latest is undone", x.undo(), changes - 1);
        e.due("MINUTE as it was ahead of it", x.of(0, 8), 0);
        x.redo();
        e.due("MINUTE as told", x.of(0, 8), 150);
        GloveRegret nine = new GloveRegret();
        nine.image();
        for (int g = 0; g < 9; g++) {
            nine.guest(1, 7);
            nine.mend(g, 0, 10 + g);
        }
        nine.goes();
        e.due("an image of nobody", nine.back(), 0);
        e.dueAll("all nine as they are", new long[] {nine.of(8, 5), nine.of(8, 0), nine.of(7, 0), nine.of(0, 8)}, 1,
            18, 16, 0);
    }

    private static void undo(Edges e) {
        e.says(31, "UNDONE: how many may still be. STATE: none.");
        GloveRegret x = new GloveRegret();
        e.due("none at first", x.undo(), STATE);
        x.guest(1, 7);
        x.slip(0, 0, 1);
        x.slips(0, 1);
        x.minute();
        x.looks(0, 3);
        e.due("none by deeds, guests, slips", x.undo(), STATE);
        x.mend(0, 0, 9);
        x.mend(0, 1, 9);
        e.due("the latest first", x.undo(), 1);
        e.dueAll("FADES is as it was, REGRET is not", new long[] {x.of(0, 1), x.of(0, 0)}, 1, 9);
        e.due("the next", x.undo(), 0);
        e.due("REGRET is as it was", x.of(0, 0), 1);
        e.due("none is left", x.undo(), STATE);
        e.due("nothing comes of it", x.of(0, 0), 1);
    }

    private static void redo(Edges e) {
        e.says(32, "DONE AGAIN: how many may still be. STATE: none.");
        GloveRegret x = new GloveRegret();
        e.due("none at first", x.redo(), STATE);
        x.guest(1, 7);
        x.mend(0, 0, 9);
        x.mend(0, 1, 8);
        x.mend(0, 2, 7);
        e.due("none is undone", x.redo(), STATE);
        x.undo();
        x.undo();
        x.undo();
        e.due("the first again", x.redo(), 2);
        e.dueAll("it alone", new long[] {x.of(0, 0), x.of(0, 1), x.of(0, 2)}, 9, 1, 0);
        e.due("the second", x.redo(), 1);
        e.due("the third", x.redo(), 0);
        e.dueAll("all", new long[] {x.of(0, 0), x.of(0, 1), x.of(0, 2)}, 9, 8, 7);
        e.due("none is left", x.redo(), STATE);
        e.due("all may be undone", x.undo(), 2);
    }

    private static void sameNumberIsNoChange(Edges e) {
        e.says(Edges.TERMS, "CHANGES (all numbers of mend(); telling the same number is none) can be UNDONE");
        GloveRegret x = Check.three();
        x.slip(0, 50, 15);
        int changes = x.count(3);
        int[] told = {44, 4, 4, 0, 9, 1, 44, 4, 44};
        for (int what = 0; what <= 8; what++) {
            int was = x.of(0, what);
            e.due("the same " + what, x.mend(0, what, was), was);
            e.due("is none", x.count(3), changes);
            x.mend(0, what, told[what]);
            e.due("another one is", x.count(3), changes + 1);
            e.due("undo()", x.undo(), changes);
            e.due("it is as it was", x.of(0, what), was);
            e.due("the same again", x.mend(0, what, was), was);
            e.due("redo() is still there", x.redo(), 0);
            e.due("it is as told", x.of(0, what), told[what]);
            changes++;
        }
    }

    private static void noOtherCameBehind(Edges e) {
        e.says(Edges.TERMS, "the latest first, and DONE AGAIN (as long as no other came behind)");
        GloveRegret x = Check.three();
        x.mend(0, 0, 50);
        x.mend(0, 0, 60);
        x.undo();
        x.mend(0, 9, 1);
        x.mend(0, 0, 100);
        x.mend(0, 0, 50);
        x.guest(1, 7);
        x.slip(0, 0, 1);
        x.slips(0, 1);
        x.looks(0, 1);
        x.minute();
        e.due("no change came", x.redo(), 0);
        e.due("done again", x.of(0, 0), 60);
        x.undo();
        x.mend(1, 1, 5);
        e.due("another one came", x.redo(), STATE);
        e.due("not done again", x.of(0, 0), 50);
        e.due("the other one is undone", x.undo(), 5);
        e.due("FADES", x.of(1, 1), 2);
        e.due("and done again, not the one ahead of it", x.redo(), 0);
        e.dueAll("FADES, REGRET", new long[] {x.of(1, 1), x.of(0, 0)}, 5, 50);
    }

    private static void fortyAreKept(Edges e) {
        e.says(Edges.TERMS, "40 at most are kept");
        GloveRegret x = new GloveRegret();
        x.guest(1, 7);
        for (int i = 1; i <= 39; i++) {
            x.mend(0, 0, i);
        }
        e.due("39", x.count(3), 39);
        x.mend(0, 0, 40);
        e.due("40", x.count(3), 40);
        x.mend(0, 0, 41);
        e.due("41", x.count(3), 40);
        for (int i = 39; i >= 0; i--) {
            e.due("undo()", x.undo(), i);
            e.due("REGRET", x.of(0, 0), i + 1);
        }
        e.due("the first of all is not kept", x.undo(), STATE);
        e.due("REGRET by it", x.of(0, 0), 1);
        e.due("one again, 39 may be", x.redo(), 39);
        x.mend(0, 0, 99);
        e.due("two are there then", x.count(3), 2);
        e.due("no other", x.redo(), STATE);
        e.due("undo()", x.undo(), 1);
        e.due("undo()", x.undo(), 0);
        e.due("REGRET", x.of(0, 0), 1);
        fortyUnlikeOnes(e);
    }

    /** The oldest is dropped as a whole: whose number, which one, what it was and what it became. */
    private static void fortyUnlikeOnes(Edges e) {
        GloveRegret x = Check.three();
        for (int i = 0; i < 43; i++) {
            x.mend(i % 3, i % 2, 1 + (i + i / 6) % 9);
        }
        String behind = Check.seen(x);
        e.due("40 of more", x.count(3), 40);
        for (int i = 42; i >= 3; i--) {
            e.due("told by change " + i, x.of(i % 3, i % 2), 1 + (i + i / 6) % 9);
            e.due("undo()", x.undo(), i - 3);
        }
        e.dueAll("as the first three left it", new long[] {x.of(0, 0), x.of(1, 1), x.of(2, 0)}, 1, 2, 3);
        for (int i = 3; i < 43; i++) {
            e.due("redo()", x.redo(), 42 - i);
            e.due("told by change " + i + " again", x.of(i % 3, i % 2), 1 + (i + i / 6) % 9);
        }
        e.due("all is as it was", behind.equals(Check.seen(x)) ? 1 : 0, 1);
    }

    private static void deedsAreNone(Edges e) {
        e.says(Edges.TERMS, "deeds are none (REGRET, LOOKS, GONE, MINUTE by them, too).");
        GloveRegret x = Check.three();
        int changes = x.count(3);
        x.slips(0, 5);
        x.minute();
        x.looks(0, 4);
        x.goes();
        x.image();
        x.back();
        e.due("no CHANGES", x.count(3), changes);
        e.dueAll("REGRET, LOOKS, GONE, MINUTE", new long[] {x.of(0, 0), x.of(0, 2), x.of(0, 5), x.of(0, 8)}, 24, 4, 1,
            2);
        e.due("the latest by mend() is undone", x.undo(), changes - 1);
        e.due("LOOKS of the third", x.of(2, 2), 0);
        e.dueAll("deeds stay", new long[] {x.of(0, 0), x.of(0, 2), x.of(0, 5), x.of(0, 8), x.count(1)}, 24, 4, 1, 2, 1);
        x.mend(0, 2, 9);
        x.mend(0, 5, 0);
        x.looks(0, 1);
        e.due("GONE is undone", x.undo(), changes);
        e.due("GONE", x.of(0, 5), 1);
        e.due("LOOKS is undone, to what it was ahead of mend()", x.undo(), changes - 1);
        e.due("LOOKS", x.of(0, 2), 4);
    }
}
