/** Promises 24 to 32, worked out by hand. */
public final class DeedTest {
    private static final int BAD = GloveRegret.BAD, NOT = GloveRegret.NOT;
    private static final int FULL = GloveRegret.FULL, STATE = GloveRegret.STATE;
    private static final Check check = new Check();

    public static void main(String[] args) {
        slips();
        minute();
        goes();
        looks();
        led();
        imageAndBack();
        imageOfLater();
        undoAndRedo();
        fortyChanges();
        fortyOfManyNumbers();
        deedsAreNoChanges();
        undoOfEachNumber();
        check.end();
    }

    private static void slips() {
        GloveRegret x = Check.three();
        x.mend(0, 8, 7);
        check.due("slips(3, 1)", x.slips(3, 1), BAD);
        check.due("slips(-1, 1)", x.slips(-1, 1), BAD);
        check.due("slips(0, 0)", x.slips(0, 0), BAD);
        check.due("slips(0, 31)", x.slips(0, 31), BAD);
        check.due("slips(1, 30)", x.slips(1, 30), 0);
        check.dueAll("the SLIP", new long[] {x.of(0, 6), x.of(0, 7), x.of(0, 9)}, 7, 30, 1);
        check.due("REGRET waits for the minute", x.of(1, 0), 30);
        x.minute();
        check.due("REGRET behind it", x.of(1, 0), 58);
        x.mend(2, 5, 1);
        check.due("GONE", x.slips(2, 1), STATE);
        check.due("GONE: BAD ahead", x.slips(2, 0), BAD);
        for (int s = 1; s < 12; s++) {
            check.due("slips " + s, x.slips(0, 1), s);
        }
        check.due("FULL", x.slips(0, 1), FULL);
        check.due("FULL ahead of STATE", x.slips(2, 1), FULL);
        check.due("BAD ahead of FULL", x.slips(0, 31), BAD);
        check.due("led slips", x.led(0), 12);
    }

    private static void minute() {
        GloveRegret x = Check.three();
        x.mend(1, 5, 1);
        x.slip(1, 0, 9);
        x.slip(2, 0, 9);
        check.due("minute()", x.minute(), 1);
        check.dueAll("REGRET", new long[] {x.of(0, 0), x.of(1, 0), x.of(2, 0)}, 19, 30, 8);
        x.mend(0, 8, 198);
        check.due("199", x.minute(), 199);
        check.due("199 stays", x.minute(), 199);
        check.due("REGRET all the same", x.of(0, 0), 17);
        check.due("led MINUTES", x.led(1), 3);
    }

    private static void goes() {
        GloveRegret x = Check.three();
        x.slip(1, 0, 9);
        check.due("the second", x.goes(), 1);
        check.due("is GONE", x.of(1, 5), 1);
        check.due("his REGRET stays", x.of(1, 0), 30);
        check.due("a MINUTE passed", x.of(0, 8), 1);
        check.due("REGRET of another", x.of(0, 0), 19);
        check.due("the first", x.goes(), 0);
        check.due("the third", x.goes(), 2);
        check.due("nobody", x.goes(), NOT);
        check.due("no MINUTE then", x.of(0, 8), 3);
        check.dueAll("led", led5(x), 0, 3, 3, 0, 49);
    }

    private static void looks() {
        GloveRegret x = Check.three();
        check.due("looks(2, 4)", x.looks(2, 4), 9);
        check.due("LOOKS", x.of(2, 2), 4);
        check.due("looks(2, 4) again", x.looks(2, 4), 4);
        check.due("looks(2, 10)", x.looks(2, 10), BAD);
        check.due("looks(2, -1)", x.looks(2, -1), BAD);
        check.due("looks(3, 1)", x.looks(3, 1), BAD);
        x.mend(2, 5, 1);
        check.due("GONE", x.looks(2, 1), STATE);
        check.due("GONE: BAD ahead", x.looks(2, 10), BAD);
        check.due("led LOOKS", x.led(3), 2);
    }

    private static long[] led5(GloveRegret x) {
        return new long[] {x.led(0), x.led(1), x.led(2), x.led(3), x.led(4)};
    }

    private static void led() {
        GloveRegret x = Check.three();
        check.dueAll("at first", led5(x), 0, 0, 0, 0, 0);
        check.due("led(5)", x.led(5), BAD);
        check.due("led(-1)", x.led(-1), BAD);
        x.mend(0, 5, 1);
        x.mend(0, 2, 4);
        x.mend(0, 8, 4);
        x.slip(1, 100, 3);
        check.dueAll("no deeds", led5(x), 0, 0, 0, 0, 0);
        x.slips(1, 3);
        x.minute();
        x.looks(2, 1);
        x.goes();
        // 30 + 3 - 2 as he went
        check.dueAll("deeds", led5(x), 1, 2, 1, 1, 31);
    }

    private static void imageAndBack() {
        GloveRegret x = Check.three();
        check.due("none", x.back(), STATE);
        x.goes();
        x.looks(2, 5);
        check.due("image()", x.image(), 1);
        x.goes();
        x.looks(2, 1);
        x.slips(2, 6);
        x.mend(0, 1, 7);
        x.mend(0, 3, 0);
        x.mend(0, 4, 9);
        x.minute();
        x.guest(0, 5);
        x.mend(3, 0, 44);
        x.mend(3, 2, 3);
        check.due("changes", x.count(3), 9);
        check.due("back()", x.back(), 1);
        check.dueAll("led", led5(x), 0, 1, 1, 1, 30);
        check.dueAll("REGRET", new long[] {x.of(0, 0), x.of(1, 0), x.of(2, 0), x.of(3, 0)}, 19, 30, 0, 44);
        check.dueAll("LOOKS", new long[] {x.of(0, 2), x.of(1, 2), x.of(2, 2), x.of(3, 2)}, 0, 0, 5, 3);
        check.dueAll("GONE", new long[] {x.of(0, 5), x.of(1, 5), x.of(2, 5), x.of(3, 5)}, 0, 1, 0, 0);
        check.dueAll("FADES, HAND, SIZE", new long[] {x.of(0, 1), x.of(0, 3), x.of(0, 4)}, 7, 0, 9);
        check.due("MINUTE", x.of(0, 8), 1);
        check.due("the SLIP is as it is", x.count(1), 1);
        check.due("the changes too", x.count(3), 9);
        x.minute();
        check.due("back() again", x.back(), 1);
        check.due("MINUTE again", x.of(0, 8), 1);
        check.due("none is GONE by LED", new GloveRegret().image(), 0);
    }

    private static void imageOfLater() {
        GloveRegret x = Check.three();
        x.mend(0, 5, 1);
        check.due("gone by mend() is no deed", x.image(), 0);
        x.goes();
        check.due("the later image", x.image(), 1);
        x.goes();
        check.due("counts", x.back(), 1);
        check.due("of now", x.led(2), 1);
    }

    private static void undoAndRedo() {
        GloveRegret x = new GloveRegret();
        x.guest(1, 7);
        check.due("a guest is no change", x.count(3), 0);
        x.mend(0, 0, 5);
        x.mend(0, 0, 5);
        check.due("the same is none", x.count(3), 1);
        x.mend(0, 0, 8);
        x.mend(0, 2, 3);
        check.due("undo()", x.undo(), 2);
        check.due("LOOKS", x.of(0, 2), 0);
        check.due("undo()", x.undo(), 1);
        check.due("REGRET", x.of(0, 0), 5);
        check.due("count(3)", x.count(3), 1);
        check.due("redo()", x.redo(), 1);
        check.due("REGRET again", x.of(0, 0), 8);
        x.mend(0, 0, 8);
        x.mend(0, 0, 100);
        check.due("no change came", x.redo(), 0);
        check.due("none left", x.redo(), STATE);
        x.undo();
        x.mend(0, 1, 4);
        check.due("another came behind", x.redo(), STATE);
        check.due("undo()", x.undo(), 2);
        check.due("undo()", x.undo(), 1);
        check.due("undo()", x.undo(), 0);
        check.due("undo()", x.undo(), STATE);
        check.due("REGRET at first", x.of(0, 0), 0);
        check.due("redo()", x.redo(), 2);
        check.due("count(3)", x.count(3), 1);
    }

    private static void fortyChanges() {
        GloveRegret x = new GloveRegret();
        x.guest(1, 7);
        for (int i = 1; i <= 45; i++) {
            x.mend(0, 0, i);
            check.due("count(3)", x.count(3), Math.min(40, i));
        }
        for (int i = 39; i >= 0; i--) {
            check.due("undo()", x.undo(), i);
        }
        check.due("no more", x.undo(), STATE);
        check.due("five stay", x.of(0, 0), 5);
        for (int i = 39; i >= 0; i--) {
            check.due("redo()", x.redo(), i);
        }
        check.due("no more", x.redo(), STATE);
        check.due("all", x.of(0, 0), 45);
        x.mend(0, 0, 77);
        check.due("undo()", x.undo(), 39);
        check.due("REGRET", x.of(0, 0), 45);
    }

    private static void fortyOfManyNumbers() {
        GloveRegret x = Check.three();
        for (int s = 0; s < 12; s++) {
            x.slip(s % 3, 50, 20);
        }
        // four changes made the three; 39 come behind them, so that the first three of all are forgotten
        for (int s = 0; s < 12; s++) {
            x.mend(s, 6, 60 + s);
            x.mend(s, 7, 1 + s);
            x.mend(s % 3, 0, 40 + s);
        }
        for (int g = 0; g < 3; g++) {
            x.mend(g, 4, 8);
        }
        check.due("count(3)", x.count(3), 40);
        while (x.undo() >= 0) {
            check.due("MINUTE is not touched", x.of(0, 8), 0);
        }
        for (int s = 0; s < 12; s++) {
            check.due("AT undone", x.of(s, 6), 50);
            check.due("WEIGHT undone", x.of(s, 7), 20);
        }
        check.dueAll("REGRET undone", new long[] {x.of(0, 0), x.of(1, 0), x.of(2, 0), x.of(2, 2)}, 20, 30, 0, 0);
        while (x.redo() >= 0) {
            check.due("MINUTE is not touched", x.of(0, 8), 0);
        }
        for (int s = 0; s < 12; s++) {
            check.due("AT again", x.of(s, 6), 60 + s);
            check.due("WEIGHT again", x.of(s, 7), 1 + s);
        }
        check.dueAll("REGRET again", new long[] {x.of(0, 0), x.of(1, 0), x.of(2, 0), x.of(2, 2)}, 49, 50, 51, 9);
    }

    private static void deedsAreNoChanges() {
        GloveRegret x = Check.three();
        int changes = x.count(3);
        x.undo();
        x.slips(0, 3);
        x.minute();
        x.looks(1, 5);
        x.goes();
        x.image();
        x.minute();
        x.back();
        x.slip(0, 5, 5);
        check.due("count(3)", x.count(3), changes - 1);
        check.due("redo() is still there", x.redo(), 0);
        check.due("LOOKS of the third", x.of(2, 2), 9);
        // as it was ahead of the change, whatever the minute made of it
        x.mend(0, 0, 50);
        x.minute();
        x.undo();
        check.due("REGRET as it was ahead of the change", x.of(0, 0), 21);
        x.redo();
        check.due("REGRET as it was told", x.of(0, 0), 50);
    }

    private static void undoOfEachNumber() {
        GloveRegret x = Check.three();
        x.slip(0, 5, 5);
        int[] told = {77, 7, 7, 0, 9, 1, 77, 17, 88};
        for (int what = 0; what < 9; what++) {
            int was = x.mend(0, what, told[what]);
            check.due("told " + what, x.of(0, what), told[what]);
            x.undo();
            check.due("undone " + what, x.of(0, what), was);
            x.redo();
            check.due("done again " + what, x.of(0, what), told[what]);
        }
    }
}
