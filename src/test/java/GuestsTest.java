/** Promises 1 to 8, but for what a law is worth: LawTest has that. */
public final class GuestsTest {
    private static final Check check = new Check();

    public static void main(String[] args) {
        newObject();
        guest();
        guestsFromRow();
        guestsThatEnd();
        slip();
        mendGuest();
        mendSlipAndMinute();
        feed();
        check.end();
    }

    private static void newObject() {
        GloveRegret x = new GloveRegret();
        for (int what = 0; what < 6; what++) {
            check.due("new: count(" + what + ")", x.count(what), 0);
        }
        check.due("new: MINUTE", x.of(0, 8), 0);
        check.due("new: first(0)", x.first(0), GloveRegret.NOT);
        check.due("new: back()", x.back(), GloveRegret.STATE);
        check.due("new: undo()", x.undo(), GloveRegret.STATE);
        check.due("new: redo()", x.redo(), GloveRegret.STATE);
        check.due("new: trace(0)", x.trace(0), GloveRegret.BAD);
        for (int shelf = 0; shelf < 6; shelf++) {
            check.due("new: judge(" + shelf + ")", x.judge(shelf), -11);
        }
    }

    private static void guest() {
        GloveRegret x = new GloveRegret();
        check.due("guest(-1, 7)", x.guest(-1, 7), GloveRegret.BAD);
        check.due("guest(2, 7)", x.guest(2, 7), GloveRegret.BAD);
        check.due("guest(0, 4)", x.guest(0, 4), GloveRegret.BAD);
        check.due("guest(0, 10)", x.guest(0, 10), GloveRegret.BAD);
        for (int g = 0; g < 9; g++) {
            check.due("guest " + g, x.guest(g % 2, 5 + g % 5), g);
        }
        check.due("the tenth", x.guest(1, 7), GloveRegret.FULL);
        check.due("BAD ahead of FULL", x.guest(1, 4), GloveRegret.BAD);
        check.due("count(0)", x.count(0), 9);
        for (int g = 0; g < 9; g++) {
            int[] first = {0, 1, 0, g % 2, 5 + g % 5, 0};
            for (int what = 0; what < 6; what++) {
                check.due("of(" + g + ", " + what + ")", x.of(g, what), first[what]);
            }
        }
    }

    private static void guestsFromRow() {
        GloveRegret x = new GloveRegret();
        check.due("a missing row", x.guests(0, 0, 1), 0);
        check.due("shelf -1", x.guests(-1, 0, 1), GloveRegret.BAD);
        check.due("shelf 6", x.guests(6, 0, 1), GloveRegret.BAD);
        check.due("n 0", x.guests(0, 0, 0), GloveRegret.BAD);
        check.due("n 10", x.guests(0, 0, 10), GloveRegret.BAD);
        x.row(1, 1, 8);
        check.due("a row of shorts", x.guests(1, 0, 1), -12);
        check.due("BAD ahead of -12", x.guests(1, 0, 0), GloveRegret.BAD);
        x.body(0);
        x.keep(2, 0);
        check.due("a hook", x.guests(2, 0, 1), -12);
        Check.bytes(x, 0, 77, 99, 9, 9, 1, 0, 0, 0, 0, 5, 6, 7);
        check.due("from place 1 on, the third ends early", x.guests(0, 1, 5), 2);
        int[][] due = {{99, 9, 9, 1, 7, 0}, {0, 0, 0, 0, 7, 0}};
        for (int g = 0; g < 2; g++) {
            for (int what = 0; what < 6; what++) {
                check.due("came: of(" + g + ", " + what + ")", x.of(g, what), due[g][what]);
            }
        }
        check.due("one of two", x.guests(0, 1, 1), 1);
        check.due("the last place of a four is beyond", x.guests(0, 10, 1), 0);
        check.due("behind the row", x.guests(0, 13, 1), 0);
        check.due("far behind the row", x.guests(0, Integer.MAX_VALUE, 9), 0);
        check.due("ahead of the row", x.guests(0, -1, 1), 0);
        check.due("count(0)", x.count(0), 3);
        check.due("no change to undo", x.count(3), 0);
    }

    private static void guestsThatEnd() {
        int[][] notSo = {{100, 0, 0, 0}, {-1, 0, 0, 0}, {0, 10, 0, 0}, {0, -1, 0, 0}, {0, 0, 10, 0}, {0, 0, -1, 0},
            {0, 0, 0, 2}, {0, 0, 0, -1}, {200, 0, 0, 0}};
        for (int[] four : notSo) {
            GloveRegret x = new GloveRegret();
            Check.bytes(x, 3, 5, 1, 2, 1, four[0], four[1], four[2], four[3], 6, 1, 2, 1);
            check.due("one is not so", x.guests(3, 0, 3), 1);
            check.due("one is not so: count(0)", x.count(0), 1);
        }
        GloveRegret x = new GloveRegret();
        x.row(0, 0, 60);
        check.due("nine of zeros", x.guests(0, 0, 7), 7);
        check.due("till they are FULL", x.guests(0, 0, 9), 2);
        check.due("FULL already", x.guests(0, 0, 9), 0);
        check.due("count(0)", x.count(0), 9);
    }

    private static void slip() {
        GloveRegret x = new GloveRegret();
        check.due("by nobody", x.slip(0, 0, 1), GloveRegret.BAD);
        x.guest(1, 7);
        check.due("slip(-1, 0, 1)", x.slip(-1, 0, 1), GloveRegret.BAD);
        check.due("slip(0, -1, 1)", x.slip(0, -1, 1), GloveRegret.BAD);
        check.due("slip(0, 200, 1)", x.slip(0, 200, 1), GloveRegret.BAD);
        check.due("slip(0, 0, 0)", x.slip(0, 0, 0), GloveRegret.BAD);
        check.due("slip(0, 0, 31)", x.slip(0, 0, 31), GloveRegret.BAD);
        for (int s = 0; s < 12; s++) {
            check.due("slip " + s, x.slip(0, s == 0 ? 199 : s, s == 0 ? 30 : s), s);
        }
        check.due("the thirteenth", x.slip(0, 0, 1), GloveRegret.FULL);
        check.due("BAD ahead of FULL", x.slip(0, 0, 0), GloveRegret.BAD);
        check.due("count(1)", x.count(1), 12);
        check.due("AT", x.of(0, 6), 199);
        check.due("WEIGHT", x.of(0, 7), 30);
        check.due("BY", x.of(0, 9), 0);
        check.due("AT of the last", x.of(11, 6), 11);
    }

    private static void mendGuest() {
        GloveRegret x = new GloveRegret();
        x.guest(1, 7);
        int[] first = {0, 1, 0, 1, 7, 0};
        int[] least = {0, 0, 0, 0, 5, 0};
        int[] most = {99, 9, 9, 1, 9, 1};
        for (int what = 0; what < 6; what++) {
            String of = "mend " + what + ": ";
            check.due(of + "below", x.mend(0, what, least[what] - 1), GloveRegret.BAD);
            check.due(of + "above", x.mend(0, what, most[what] + 1), GloveRegret.BAD);
            check.due(of + "nobody", x.mend(1, what, least[what]), GloveRegret.BAD);
            check.due(of + "nobody below", x.mend(-1, what, least[what]), GloveRegret.BAD);
            check.due(of + "still", x.of(0, what), first[what]);
            check.due(of + "most", x.mend(0, what, most[what]), first[what]);
            check.due(of + "least", x.mend(0, what, least[what]), most[what]);
            check.due(of + "then", x.of(0, what), least[what]);
        }
        int changes = x.count(3);
        check.due("mend -1", x.mend(0, -1, 0), GloveRegret.BAD);
        check.due("nobody is mended", x.mend(1, 0, 3), GloveRegret.BAD);
        check.due("what is refused is no change", x.count(3), changes);
        check.due("of -1", x.of(0, -1), GloveRegret.BAD);
    }

    private static void mendSlipAndMinute() {
        GloveRegret x = new GloveRegret();
        x.guest(1, 7);
        x.guest(0, 8);
        x.slip(1, 4, 9);
        check.due("AT 199", x.mend(0, 6, 199), 4);
        check.due("AT 200", x.mend(0, 6, 200), GloveRegret.BAD);
        check.due("AT -1", x.mend(0, 6, -1), GloveRegret.BAD);
        check.due("WEIGHT 30", x.mend(0, 7, 30), 9);
        check.due("WEIGHT 31", x.mend(0, 7, 31), GloveRegret.BAD);
        check.due("WEIGHT 0", x.mend(0, 7, 0), GloveRegret.BAD);
        check.due("no such slip", x.mend(1, 7, 1), GloveRegret.BAD);
        check.due("MINUTE 199", x.mend(0, 8, 199), 0);
        check.due("MINUTE 200", x.mend(0, 8, 200), GloveRegret.BAD);
        check.due("MINUTE of 1", x.mend(1, 8, 3), GloveRegret.BAD);
        check.due("BY is not mended", x.mend(0, 9, 0), GloveRegret.BAD);
        check.due("of BY", x.of(0, 9), 1);
        check.due("of BY of none", x.of(1, 9), GloveRegret.BAD);
        check.due("of AT", x.of(0, 6), 199);
        check.due("of WEIGHT", x.of(0, 7), 30);
        check.due("of MINUTE", x.of(0, 8), 199);
        check.due("of MINUTE of 1", x.of(1, 8), GloveRegret.BAD);
        check.due("of 10", x.of(0, 10), GloveRegret.BAD);
    }

    private static void feed() {
        GloveRegret x = new GloveRegret();
        check.due("feed(-1)", x.feed(-1), GloveRegret.BAD);
        check.due("feed(256)", x.feed(256), GloveRegret.BAD);
        check.due("feed(255)", x.feed(255), 1);
        check.due("feed(0)", x.feed(0), 2);
        for (int i = 3; i <= 120; i++) {
            check.due("feed", x.feed('r'), i);
        }
        check.due("a byte too many", x.feed('r'), GloveRegret.FULL);
        check.due("BAD ahead of FULL", x.feed(256), GloveRegret.BAD);
        check.due("count(2)", x.count(2), 120);
        check.due("law()", x.law(), -100);
        check.due("count(2) then", x.count(2), 0);
    }
}
