/** Boundary cases of promises 1 to 7: GUESTS, SLIPS, what is mended and fed. */
final class GuestEdges {
    private static final int BAD = GloveRegret.BAD, FULL = GloveRegret.FULL;
    private static final int MIN = Integer.MIN_VALUE, MAX = Integer.MAX_VALUE;

    static void all(Edges e) {
        newObject(e);
        numbersOfGuests(e);
        numbersOfSlips(e);
        guest(e);
        guests(e);
        guestsThatEnd(e);
        guestsFromPlaces(e);
        slip(e);
        mend(e);
        of(e);
        feed(e);
    }

    private static void newObject(Edges e) {
        e.says(1, "An empty tray.");
        GloveRegret x = new GloveRegret();
        for (int what = 0; what <= 5; what++) {
            e.due("count(" + what + ")", x.count(what), 0);
        }
        for (int what = 0; what <= 4; what++) {
            e.due("led(" + what + ")", x.led(what), 0);
        }
        e.due("goes()", x.goes(), GloveRegret.NOT);
        e.due("of(0, 8)", x.of(0, 8), 0);
        GloveRegret other = new GloveRegret();
        x.guest(1, 7);
        x.minute();
        e.due("another one's guests", other.count(0), 0);
        e.due("another one's minute", other.of(0, 8), 0);
    }

    /** A number's bounds: what is beyond them is BAD and leaves it, the bounds themselves are taken. */
    private static void bounds(Edges e, GloveRegret x, int what, int least, int most, int first) {
        String mend = "mend(0, " + what + ", ..)";
        e.due("at first", x.of(0, what), first);
        e.dueEach(mend + " too small", BAD, x.mend(0, what, least - 1), x.mend(0, what, -100), x.mend(0, what, MIN));
        e.dueEach(mend + " too large", BAD, x.mend(0, what, most + 1), x.mend(0, what, 1000), x.mend(0, what, MAX));
        e.due("still as at first", x.of(0, what), first);
        e.due(mend + " most", x.mend(0, what, most), first);
        e.due(mend + " least", x.mend(0, what, least), most);
        e.due("least", x.of(0, what), least);
        e.due(mend + " back", x.mend(0, what, first), least);
    }

    private static void numbersOfGuests(Edges e) {
        GloveRegret x = new GloveRegret();
        // HAND and SIZE at first, where nothing else is told: from a ROW SIZE is not told
        Check.bytes(x, 0, 0, 1, 0, 1);
        x.guests(0, 0, 1);
        e.says(Edges.TERMS, "REGRET (0 .. 99; 0 at first)");
        bounds(e, x, 0, 0, 99, 0);
        e.says(Edges.TERMS, "FADES (0 .. 9 a minute; 1 at first)");
        bounds(e, x, 1, 0, 9, 1);
        GloveRegret plain = new GloveRegret();
        plain.guest(0, 5);
        e.due("FADES at first", plain.of(0, 1), 1);
        e.says(Edges.TERMS, "LOOKS (0 .. 9; 0 at first)");
        bounds(e, x, 2, 0, 9, 0);
        e.due("LOOKS at first", plain.of(0, 2), 0);
        e.says(Edges.TERMS, "HAND (0 left, 1 right; 1 at first)");
        bounds(e, x, 3, 0, 1, 1);
        e.due("left as told", plain.of(0, 3), 0);
        x.mend(0, 0, 40);
        e.due("right is READ in full", x.later(0, 0, 0), 40);
        x.mend(0, 3, 0);
        e.due("left is READ less 5", x.later(0, 0, 0), 35);
        x.mend(0, 3, 1);
        e.says(Edges.TERMS, "SIZE (5 .. 9; 7 at first)");
        bounds(e, x, 4, 5, 9, 7);
        e.due("SIZE as told", plain.of(0, 4), 5);
        e.says(Edges.TERMS, "GONE (0, 1; 0 at first)");
        bounds(e, x, 5, 0, 1, 0);
    }

    private static void numbersOfSlips(Edges e) {
        GloveRegret x = new GloveRegret();
        x.guest(1, 7);
        x.guest(1, 7);
        e.says(Edges.TERMS, "SLIPS 0 .. 11, as they come: BY a GUEST");
        for (int s = 0; s <= 11; s++) {
            e.due("slip " + s, s % 2 == 0 ? x.slip(s / 2 % 2, 7, 3) : x.slips(s / 2 % 2, 3), s);
        }
        e.dueEach("slip 12", FULL, x.slip(0, 7, 3), x.slips(0, 3));
        for (int s = 0; s <= 11; s++) {
            e.due("BY of " + s, x.of(s, 9), s / 2 % 2);
        }
        e.says(Edges.TERMS, "AT a minute (0 .. 199)");
        bounds(e, x, 6, 0, 199, 7);
        e.says(Edges.TERMS, "WEIGHT (1 .. 30)");
        bounds(e, x, 7, 1, 30, 3);
        e.says(Edges.TERMS, "MINUTE (0 .. 199; 0 at first)");
        bounds(e, x, 8, 0, 199, 0);
    }

    private static void guest(Edges e) {
        GloveRegret x = new GloveRegret();
        e.says(2, "A GUEST: the number. BAD");
        e.dueEach("hand too small", BAD, x.guest(-1, 7), x.guest(MIN, 7));
        e.dueEach("hand too large", BAD, x.guest(2, 7), x.guest(7, 1), x.guest(MAX, 7));
        e.dueEach("size too small", BAD, x.guest(1, 4), x.guest(1, 0), x.guest(1, -5), x.guest(1, MIN));
        e.dueEach("size too large", BAD, x.guest(1, 10), x.guest(0, MAX));
        e.due("none came", x.count(0), 0);
        e.says(Edges.TERMS, "8, as they come");
        int[][] told = {{0, 5}, {1, 5}, {0, 9}, {1, 9}, {1, 7}, {1, 7}, {1, 7}, {1, 7}, {1, 7}};
        for (int g = 0; g <= 8; g++) {
            e.due("guest " + g, x.guest(told[g][0], told[g][1]), g);
            e.due("its HAND", x.of(g, 3), told[g][0]);
            e.due("its SIZE", x.of(g, 4), told[g][1]);
        }
        e.says(2, "FULL: 9.");
        e.dueEach("the tenth", FULL, x.guest(0, 5), x.guest(1, 9));
        e.dueEach("BAD ahead of FULL", BAD, x.guest(2, 7), x.guest(1, 4));
        for (int g = 0; g <= 8; g++) {
            x.mend(g, 5, 1);
        }
        e.due("those who are GONE leave no room", x.guest(1, 7), FULL);
        e.due("nine", x.count(0), 9);
        e.due("number 9 is nobody", x.of(9, 0), BAD);
    }

    private static void guests(Edges e) {
        GloveRegret x = new GloveRegret();
        x.row(0, 0, 40);
        e.says(3, "n (1 .. 9) of them: how many came. BAD");
        e.dueEach("n too small", BAD, x.guests(0, 0, 0), x.guests(0, 0, -1), x.guests(0, 0, MIN));
        e.dueEach("n too large", BAD, x.guests(0, 0, 10), x.guests(0, 0, MAX));
        e.dueEach("no such shelf", BAD, x.guests(-1, 0, 1), x.guests(6, 0, 1), x.guests(MIN, 0, 1), x.guests(MAX, 0,
            1));
        e.due("none came", x.count(0), 0);
        e.due("n 1", x.guests(0, 0, 1), 1);
        e.due("one came", x.count(0), 1);
        e.due("n 8", x.guests(0, 0, 8), 8);
        GloveRegret nine = new GloveRegret();
        nine.row(5, 0, 40);
        e.due("n 9 of shelf 5", nine.guests(5, 4, 9), 9);
        e.says(3, "-12 (no ROW of bytes; a SHELF that holds nothing is missing).");
        GloveRegret y = new GloveRegret();
        e.due("a shelf that holds nothing", y.guests(0, 0, 1), 0);
        for (int sort = 1; sort <= 4; sort++) {
            y.row(0, sort, 8);
            e.due("a row of sort " + sort, y.guests(0, 0, 1), -12);
            e.due("BAD ahead of -12", y.guests(0, 0, 0), BAD);
            y.row(0, sort, 0);
            e.due("an empty row of sort " + sort, y.guests(0, 0, 1), -12);
        }
        y.keep(0, y.body(0));
        e.due("a hook", y.guests(0, 0, 1), -12);
        y.keep(0, -1);
        e.due("nothing again", y.guests(0, 0, 1), 0);
        e.due("BAD ahead of what is missing", y.guests(0, 0, 10), BAD);
        e.due("none came", y.count(0), 0);
    }

    private static void guestsThatEnd(Edges e) {
        e.says(Edges.TERMS, "it ends where the row is missing, ends (within a four, too)");
        e.due("missing", new GloveRegret().guests(3, 0, 9), 0);
        for (int length = 0; length <= 12; length++) {
            GloveRegret x = new GloveRegret();
            x.row(0, 0, length);
            e.due("a row of " + length, x.guests(0, 0, 9), length / 4);
            e.due("so many came", x.count(0), length / 4);
        }
        e.says(Edges.TERMS, "one is not so");
        int[] most = {99, 9, 9, 1};
        for (int what = 0; what < 4; what++) {
            for (int v : new int[] {-128, -1, most[what] + 1, 127}) {
                GloveRegret x = new GloveRegret();
                Check.bytes(x, 0, 5, 5, 5, 1, 6, 6, 6, 0, 7, 7, 7, 1);
                x.put(0, 4 + what, v);
                e.due("number " + what + " is " + v, x.guests(0, 0, 3), 1);
                e.due("the one ahead came", x.of(0, 0), 5);
                e.due("no other", x.count(0), 1);
            }
            for (int v : new int[] {0, most[what]}) {
                GloveRegret x = new GloveRegret();
                Check.bytes(x, 0, 5, 5, 5, 1);
                x.put(0, what, v);
                e.due("number " + what + " is " + v, x.guests(0, 0, 3), 1);
                e.due("as told", x.of(0, what), v);
            }
        }
        e.says(Edges.TERMS, "or GUESTS are FULL: those ahead came.");
        GloveRegret x = new GloveRegret();
        for (int g = 0; g < 7; g++) {
            x.guest(0, 5);
        }
        Check.bytes(x, 0, 11, 1, 1, 1, 12, 1, 1, 1, 13, 1, 1, 1);
        e.due("two of three", x.guests(0, 0, 3), 2);
        e.dueAll("those ahead", new long[] {x.of(7, 0), x.of(8, 0), x.count(0)}, 11, 12, 9);
        e.due("none when FULL", x.guests(0, 0, 1), 0);
        e.due("BAD when FULL", x.guests(0, 0, 0), BAD);
    }

    private static void guestsFromPlaces(Edges e) {
        e.says(3, "GUESTS FROM A ROW on a SHELF, from place i on");
        GloveRegret x = new GloveRegret();
        Check.bytes(x, 0, 11, 1, 1, 1, 1, 1, 1, 1);
        e.dueEach("ahead of the row", 0, x.guests(0, -1, 1), x.guests(0, -4, 2), x.guests(0, MIN, 9));
        e.dueEach("behind the row", 0, x.guests(0, 8, 1), x.guests(0, 9, 9), x.guests(0, 60, 9));
        e.dueEach("far behind it", 0, x.guests(0, MAX, 9), x.guests(0, MAX - 3, 9), x.guests(0, MAX - 2, 9));
        e.dueEach("the last place of a four is not there", 0, x.guests(0, 5, 1), x.guests(0, 6, 9), x.guests(0, 7, 9));
        e.due("none came", x.count(0), 0);
        e.due("the last four", x.guests(0, 4, 9), 1);
        e.due("its REGRET", x.of(0, 0), 1);
        e.due("from 0 on", x.guests(0, 0, 1), 1);
        e.due("its REGRET", x.of(1, 0), 11);
    }

    private static void slip(Edges e) {
        GloveRegret x = new GloveRegret();
        e.says(4, "A SLIP BY a GUEST, AT a minute: its number. BAD");
        e.due("by nobody at all", x.slip(0, 0, 1), BAD);
        x.guest(1, 7);
        x.guest(1, 7);
        e.dueEach("by no such guest", BAD, x.slip(-1, 0, 1), x.slip(2, 0, 1), x.slip(9, 0, 1), x.slip(MIN, 0, 1),
            x.slip(MAX, 0, 1));
        e.dueEach("at too small", BAD, x.slip(0, -1, 1), x.slip(0, MIN, 1));
        e.dueEach("at too large", BAD, x.slip(0, 200, 1), x.slip(0, MAX, 1));
        e.dueEach("weight too small", BAD, x.slip(0, 0, 0), x.slip(0, 0, -1), x.slip(0, 0, MIN));
        e.dueEach("weight too large", BAD, x.slip(0, 0, 31), x.slip(0, 0, MAX));
        e.due("none came", x.count(1), 0);
        e.due("the least", x.slip(0, 0, 1), 0);
        e.due("the most", x.slip(1, 199, 30), 1);
        e.dueAll("the least", new long[] {x.of(0, 9), x.of(0, 6), x.of(0, 7)}, 0, 0, 1);
        e.dueAll("the most", new long[] {x.of(1, 9), x.of(1, 6), x.of(1, 7)}, 1, 199, 30);
        x.mend(0, 5, 1);
        x.mend(0, 8, 9);
        e.due("by one who is GONE, AT a minute that is over", x.slip(0, 3, 2), 2);
        e.says(4, "FULL: 12.");
        for (int s = 3; s < 12; s++) {
            e.due("slip " + s, x.slip(1, s, s), s);
        }
        e.due("the thirteenth", x.slip(1, 0, 1), FULL);
        e.dueEach("BAD ahead of FULL", BAD, x.slip(2, 0, 1), x.slip(1, 200, 1), x.slip(1, 0, 31));
        e.due("twelve", x.count(1), 12);
        e.due("number 12 is no slip", x.of(12, 6), BAD);
    }

    private static void mend(Edges e) {
        GloveRegret x = Check.three();
        x.slip(1, 4, 9);
        x.slip(1, 5, 8);
        e.says(5, "MINUTE (8; number 0) becomes v: what it was. BAD.");
        e.dueEach("MINUTE of another number", BAD, x.mend(1, 8, 3), x.mend(-1, 8, 3), x.mend(MAX, 8, 3));
        e.due("MINUTE still", x.of(0, 8), 0);
        e.dueEach("no such what", BAD, x.mend(0, -1, 0), x.mend(0, 9, 0), x.mend(0, 10, 0), x.mend(0, MIN, 0),
            x.mend(0, MAX, 0));
        for (int what = 0; what <= 5; what++) {
            int v = what == 4 ? 8 : 1;
            e.dueEach("no such guest", BAD, x.mend(3, what, v), x.mend(9, what, v), x.mend(-1, what, v),
                x.mend(MIN, what, v), x.mend(MAX, what, v));
        }
        for (int what = 6; what <= 7; what++) {
            e.dueEach("no such slip", BAD, x.mend(2, what, 1), x.mend(3, what, 1), x.mend(12, what, 1),
                x.mend(-1, what, 1), x.mend(MIN, what, 1), x.mend(MAX, what, 1));
        }
        e.due("AT of the last slip", x.mend(1, 6, 50), 5);
        e.due("WEIGHT of the last slip", x.mend(1, 7, 3), 8);
        e.dueAll("the other one is as it was", new long[] {x.of(0, 6), x.of(0, 7)}, 4, 9);
        e.due("the same number is what it was, too", x.mend(2, 2, 9), 9);
    }

    private static void of(Edges e) {
        GloveRegret x = new GloveRegret();
        e.says(6, "As of mend() (0 to 8); of a SLIP 9 BY. BAD.");
        for (int what = 0; what <= 9; what++) {
            if (what != 8) {
                e.dueEach("of nobody", BAD, x.of(0, what), x.of(1, what), x.of(-1, what));
            }
        }
        e.due("MINUTE, though nobody is there", x.of(0, 8), 0);
        x.guest(0, 9);
        x.guest(1, 5);
        x.slip(1, 100, 20);
        int[][] told = {{0, 1, 0, 0, 9, 0, 100, 20, 0, 1}, {0, 1, 0, 1, 5, 0, BAD, BAD, BAD, BAD}};
        for (int number = 0; number < 2; number++) {
            for (int what = 0; what <= 9; what++) {
                e.due("of(" + number + ", " + what + ")", x.of(number, what), told[number][what]);
            }
        }
        for (int what = 0; what <= 9; what++) {
            e.dueEach("no such number", BAD, x.of(2, what), x.of(12, what), x.of(-1, what), x.of(MIN, what),
                x.of(MAX, what));
        }
        e.dueEach("no such what", BAD, x.of(0, -1), x.of(0, 10), x.of(0, 11), x.of(0, MIN), x.of(0, MAX));
    }

    private static void feed(Edges e) {
        GloveRegret x = new GloveRegret();
        e.says(7, "A byte (0 .. 255) comes to THE TAPE: how many it has. BAD");
        e.dueEach("too small", BAD, x.feed(-1), x.feed(-142), x.feed(MIN));
        e.dueEach("too large", BAD, x.feed(256), x.feed(256 + 'r'), x.feed(MAX));
        e.due("the tape is empty still", x.count(2), 0);
        e.due("feed(0)", x.feed(0), 1);
        e.due("feed(255)", x.feed(255), 2);
        x.law();
        e.says(7, "FULL (120).");
        for (int i = 1; i <= 120; i++) {
            e.due("feed " + i, x.feed(i % 2 == 1 ? 'l' : i < 120 ? '+' : '?'), i);
        }
        e.dueEach("the next", FULL, x.feed('r'), x.feed(0), x.feed(255));
        e.dueEach("BAD ahead of FULL", BAD, x.feed(-1), x.feed(256));
        e.due("120", x.count(2), 120);
        e.due("its law ends too early behind 120", x.law(), -220);
        e.due("there is room again", x.feed('r'), 1);
        e.says(Edges.TERMS, "THE LAW is a TEXT by THE TAPE (at most 120 bytes)");
        StringBuilder text = new StringBuilder("10");
        while (text.length() < 120) {
            text.append("+r");
        }
        x.law();
        e.due("a law of 120 bytes", Check.law(x, text.toString()), 1);
        x.guest(1, 7);
        x.mend(0, 0, 1);
        e.due("all of it counts", x.later(0, 0, 0), 10 + 59);
        e.due("what came behind 120 bytes did not come", Check.law(x, text + "+r?7"), 1);
        e.due("and does not count", x.later(0, 0, 0), 10 + 59);
    }
}
