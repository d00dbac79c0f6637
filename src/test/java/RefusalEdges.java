import java.util.function.ToLongFunction;

/** What is refused changes nothing, call by call, on an object of which all is FULL and each thing is there. */
final class RefusalEdges {
    private static final int BAD = GloveRegret.BAD, NOT = GloveRegret.NOT, FULL = GloveRegret.FULL;
    private static final int STATE = GloveRegret.STATE, VOID = GloveRegret.VOID;

    static void all(Edges e) {
        constants(e);
        changesNothing(e);
        nobodyLeft(e);
    }

    private static void constants(Edges e) {
        e.says(Edges.TERMS, "Answers, of several the one named first: BAD (-1): no such number, or it is not as said; "
            + "NOT (-2): as told; FULL (-3); STATE (-5): as told; -11 to -14. VOID is -2000000000.");
        e.dueAll("constants", new long[] {BAD, NOT, FULL, STATE, VOID}, -1, -2, -3, -5, -2000000000);
        GloveRegret x = full();
        e.due("BAD ahead of NOT", x.later(61, 0, 2), BAD);
        e.due("BAD ahead of FULL", x.guest(2, 7), BAD);
        e.due("BAD ahead of STATE", x.looks(0, 10), BAD);
        e.due("FULL ahead of STATE", x.slips(0, 1), FULL);
        e.due("BAD ahead of -11", x.fits(5, 9, 0), BAD);
        e.due("BAD ahead of -14", x.row(0, 5, -1), BAD);
        e.says(Edges.TERMS,
            "The host's REFUSALS: -11 nothing is there where something is wanted; -12 it is of another kind; "
            + "-13 a place that is not there; -14 a size below 0.");
        e.due("-11 ahead of -12", x.shift(5, 0, 4, 0, 1), -11);
        e.due("-11 ahead of -13", x.put(5, -1, 1), -11);
        e.due("-12 ahead of -13", x.put(4, -1, 1), -12);
        e.due("-13", x.put(0, 60, 1), -13);
        e.due("-14", x.row(0, 0, -1), -14);
    }

    /** Nine GUESTS, the first GONE; all rows FULL; one change undone; shelf 4 holds a HOOK, 5 nothing. */
    private static GloveRegret full() {
        GloveRegret x = new GloveRegret();
        for (int g = 0; g < 9; g++) {
            x.guest(g % 2, 5 + g % 5);
        }
        for (int s = 0; s < 10; s++) {
            x.slip(s % 9, 10 + s, 3 + s);
        }
        x.slips(3, 4);
        x.slips(4, 5);
        x.minute();
        x.looks(5, 6);
        x.mend(0, 0, 99);
        x.goes();
        x.image();
        for (int i = 0; i < 41; i++) {
            x.mend(1 + i % 8, i % 3, 1 + (i * 7 + i / 8) % 9);
        }
        x.undo();
        for (int n = 0; n < 50; n++) {
            x.body(n % 8);
        }
        x.act(7, 3, 5);
        for (int i = 0; i < 120; i++) {
            x.feed(i % 2 == 0 ? 'r' : i < 119 ? '+' : '(');
        }
        for (int shelf = 0; shelf < 4; shelf++) {
            x.row(shelf, shelf, 60);
            x.put(shelf, 59, 7 + shelf);
        }
        x.keep(4, 7);
        return x;
    }

    private static void changesNothing(Edges e) {
        e.says(Edges.TERMS, "What is answered so changes nothing.");
        GloveRegret x = full();
        int changes = x.count(3);
        String before = Check.seen(x);
        guestsAndSlips(e, x, before);
        thoughts(e, x, before);
        deeds(e, x, before);
        shelves(e, x, before);
        e.due("what was undone may be done again", x.redo(), 0);
        e.due("one more may be undone", x.count(3), changes + 1);
        e.due("the tape ends too early, as it was fed", x.law(), -219);
        e.due("the image is there", x.back(), 1);
    }

    private static void refused(Edges e, GloveRegret x, String before, String call, int want,
        ToLongFunction<GloveRegret> made) {
        e.due(call, made.applyAsLong(x), want);
        e.dueSame(call, before, x);
    }

    private static void guestsAndSlips(Edges e, GloveRegret x, String before) {
        refused(e, x, before, "guest(2, 7)", BAD, y -> y.guest(2, 7));
        refused(e, x, before, "guest(1, 7)", FULL, y -> y.guest(1, 7));
        refused(e, x, before, "guests(0, 0, 0)", BAD, y -> y.guests(0, 0, 0));
        refused(e, x, before, "guests(1, 0, 1)", -12, y -> y.guests(1, 0, 1));
        refused(e, x, before, "guests(0, 0, 9) when FULL", 0, y -> y.guests(0, 0, 9));
        refused(e, x, before, "slip(0, 200, 1)", BAD, y -> y.slip(0, 200, 1));
        refused(e, x, before, "slip(0, 0, 1)", FULL, y -> y.slip(0, 0, 1));
        refused(e, x, before, "mend(0, 0, 100)", BAD, y -> y.mend(0, 0, 100));
        refused(e, x, before, "mend(12, 7, 1)", BAD, y -> y.mend(12, 7, 1));
        refused(e, x, before, "mend(0, 9, 1)", BAD, y -> y.mend(0, 9, 1));
        refused(e, x, before, "mend(1, 8, 5)", BAD, y -> y.mend(1, 8, 5));
        refused(e, x, before, "of(9, 0)", BAD, y -> y.of(9, 0));
        refused(e, x, before, "feed(256)", BAD, y -> y.feed(256));
        refused(e, x, before, "feed(114)", FULL, y -> y.feed(114));
    }

    private static void thoughts(Edges e, GloveRegret x, String before) {
        refused(e, x, before, "later(61, 0, 0)", BAD, y -> y.later(61, 0, 0));
        refused(e, x, before, "later(60, 0, 2)", NOT, y -> y.later(60, 0, 2));
        refused(e, x, before, "first(61)", BAD, y -> y.first(61));
        refused(e, x, before, "peak(9, 0)", BAD, y -> y.peak(9, 0));
        refused(e, x, before, "goesAs(0, 8)", NOT, y -> y.goesAs(0, 8));
        refused(e, x, before, "goesAs(0, -1)", BAD, y -> y.goesAs(0, -1));
        refused(e, x, before, "goesWhen(60, 0)", NOT, y -> y.goesWhen(60, 0));
        refused(e, x, before, "goesWhen(61, 1)", BAD, y -> y.goesWhen(61, 1));
        refused(e, x, before, "waits(61)", BAD, y -> y.waits(61));
        refused(e, x, before, "sorry(0, 0)", NOT, y -> y.sorry(0, 0));
        refused(e, x, before, "sorry(1, 9)", BAD, y -> y.sorry(1, 9));
        refused(e, x, before, "slipWhen(0, 100, 0)", STATE, y -> y.slipWhen(0, 100, 0));
        refused(e, x, before, "slipWhen(1, 31, 0)", BAD, y -> y.slipWhen(1, 31, 0));
        refused(e, x, before, "held(2)", BAD, y -> y.held(2));
        refused(e, x, before, "pairs(3)", BAD, y -> y.pairs(3));
        refused(e, x, before, "judge(5)", -11, y -> y.judge(5));
        refused(e, x, before, "judge(4)", -12, y -> y.judge(4));
        refused(e, x, before, "fits(5, 1, 0)", -11, y -> y.fits(5, 1, 0));
        refused(e, x, before, "fits(0, 1, 1)", NOT, y -> y.fits(0, 1, 1));
        refused(e, x, before, "upside(2)", BAD, y -> y.upside(2));
        refused(e, x, before, "byTurns(1, 1, 0)", VOID, y -> y.byTurns(1, 1, 0));
        refused(e, x, before, "drawn(0, 10113, 1)", BAD, y -> y.drawn(0, 10113, 1));
    }

    private static void deeds(Edges e, GloveRegret x, String before) {
        refused(e, x, before, "slips(0, 31)", BAD, y -> y.slips(0, 31));
        refused(e, x, before, "slips(1, 1)", FULL, y -> y.slips(1, 1));
        refused(e, x, before, "looks(1, 10)", BAD, y -> y.looks(1, 10));
        refused(e, x, before, "looks(0, 1)", STATE, y -> y.looks(0, 1));
        refused(e, x, before, "led(5)", BAD, y -> y.led(5));
    }

    private static void shelves(Edges e, GloveRegret x, String before) {
        refused(e, x, before, "body(8)", BAD, y -> y.body(8));
        refused(e, x, before, "body(0)", FULL, y -> y.body(0));
        refused(e, x, before, "trace(14)", BAD, y -> y.trace(14));
        refused(e, x, before, "keep(0, 50)", BAD, y -> y.keep(0, 50));
        refused(e, x, before, "keep(6, -1)", BAD, y -> y.keep(6, -1));
        refused(e, x, before, "row(0, 0, 61)", BAD, y -> y.row(0, 0, 61));
        refused(e, x, before, "row(0, 0, -1)", -14, y -> y.row(0, 0, -1));
        refused(e, x, before, "put(0, 60, 1)", -13, y -> y.put(0, 60, 1));
        refused(e, x, before, "put(4, 0, 1)", -12, y -> y.put(4, 0, 1));
        refused(e, x, before, "put(5, 0, 1)", -11, y -> y.put(5, 0, 1));
        refused(e, x, before, "shift(0, 58, 0, 0, 3)", -13, y -> y.shift(0, 58, 0, 0, 3));
        refused(e, x, before, "shift(0, 0, 0, 58, 3)", -13, y -> y.shift(0, 0, 0, 58, 3));
        refused(e, x, before, "shift(2, 0, 3, 0, 60)", -12, y -> y.shift(2, 0, 3, 0, 60));
        refused(e, x, before, "shift(5, 0, 0, 0, 1)", -11, y -> y.shift(5, 0, 0, 0, 1));
        refused(e, x, before, "taken(4, 2)", -12, y -> y.taken(4, 2));
        refused(e, x, before, "taken(5, 0)", -11, y -> y.taken(5, 0));
        refused(e, x, before, "count(6)", BAD, y -> y.count(6));
    }

    private static void nobodyLeft(Edges e) {
        e.says(Edges.TERMS, "What is answered so changes nothing.");
        GloveRegret x = Check.three();
        x.goes();
        x.goes();
        x.goes();
        x.undo();
        String before = Check.seen(x);
        refused(e, x, before, "goes()", NOT, y -> y.goes());
        refused(e, x, before, "first(0)", NOT, y -> y.first(0));
        refused(e, x, before, "back()", STATE, y -> y.back());
        refused(e, x, before, "slips(0, 1)", STATE, y -> y.slips(0, 1));
        e.due("redo()", x.redo(), 0);
        before = Check.seen(x);
        refused(e, x, before, "redo()", STATE, y -> y.redo());
        GloveRegret none = new GloveRegret();
        before = Check.seen(none);
        refused(e, none, before, "undo()", STATE, y -> y.undo());
        refused(e, none, before, "redo()", STATE, y -> y.redo());
        refused(e, none, before, "a missing row", 0, y -> y.guests(0, 0, 9));
    }
}
