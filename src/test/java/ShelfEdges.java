/** Boundary cases of promises 36 to 42: SHELVES, ROWS, what is counted. */
final class ShelfEdges {
    private static final int BAD = GloveRegret.BAD;
    private static final int MIN = Integer.MIN_VALUE, MAX = Integer.MAX_VALUE;
    private static final long NONE = Long.MIN_VALUE;

    static void all(Edges e) {
        shelves(e);
        keep(e);
        row(e);
        rowAnew(e);
        put(e);
        element(e);
        lowestBits(e);
        shift(e);
        shiftRefused(e);
        shiftAtBounds(e);
        taken(e);
        count(e);
    }

    private static void shelves(Edges e) {
        e.says(Edges.TERMS, "SHELVES 0 .. 5 each hold nothing (at first), a HOOK (a BODY), or a ROW");
        GloveRegret x = new GloveRegret();
        for (int shelf = 0; shelf <= 5; shelf++) {
            e.dueAll("nothing at first on " + shelf, new long[] {x.put(shelf, 0, 1), x.taken(shelf, 0),
                x.judge(shelf)}, -11, -11, -11);
        }
        for (int shelf = 0; shelf <= 5; shelf++) {
            x.row(shelf, 2, shelf);
            x.keep(shelf, shelf % 2 == 0 ? x.body(shelf) : -1);
        }
        for (int shelf = 0; shelf <= 5; shelf++) {
            e.due("each its own, " + shelf, x.taken(shelf, 0), shelf % 2 == 0 ? shelf : -11);
        }
    }

    private static void keep(Edges e) {
        e.says(36, "A SHELF holds nothing (body -1), or a HOOK: 1. BAD.");
        GloveRegret x = new GloveRegret();
        e.dueEach("no HOOK at all", BAD, x.keep(0, 0), x.keep(0, 1));
        e.due("nothing", x.keep(0, -1), 1);
        x.body(2);
        x.body(6);
        e.dueEach("no such shelf", BAD, x.keep(-1, 0), x.keep(6, 0), x.keep(7, -1), x.keep(MIN, 0), x.keep(MAX, -1));
        e.dueEach("no such HOOK", BAD, x.keep(0, 2), x.keep(0, 50), x.keep(0, -2), x.keep(0, MIN), x.keep(0, MAX));
        e.due("nothing there still", x.taken(0, 0), -11);
        e.due("the last HOOK on the last shelf", x.keep(5, 1), 1);
        e.due("its KIND", x.taken(5, 0), 6);
        e.due("the same HOOK on another one", x.keep(0, 1), 1);
        e.dueAll("both hold it", new long[] {x.taken(0, 6), x.taken(5, 6)}, 6, 6);
        e.due("BAD leaves it", x.keep(5, 2), BAD);
        e.due("its KIND still", x.taken(5, 0), 6);
        e.due("nothing then", x.keep(5, -1), 1);
        e.dueAll("nothing on this one alone", new long[] {x.taken(5, 0), x.taken(0, 0)}, -11, 6);
    }

    private static void row(Edges e) {
        e.says(37, "A SHELF holds a ROW: 1. BAD (sort, n above 60); -14.");
        GloveRegret x = new GloveRegret();
        e.dueEach("no such shelf", BAD, x.row(-1, 0, 1), x.row(6, 0, 1), x.row(7, 0, 1), x.row(MIN, 0, 1), x.row(MAX,
            0, 1));
        e.dueEach("no such sort", BAD, x.row(0, -1, 1), x.row(0, 5, 1), x.row(0, 6, 1), x.row(0, MIN, 1), x.row(0, MAX,
            1));
        e.dueEach("n too large", BAD, x.row(0, 0, 61), x.row(0, 4, 100), x.row(0, 3, MAX));
        e.dueEach("n below 0", -14, x.row(0, 0, -1), x.row(5, 4, -60), x.row(0, 3, MIN));
        e.dueEach("BAD ahead of -14", BAD, x.row(6, 0, -1), x.row(0, 5, -1), x.row(0, -1, MIN));
        e.dueEach("nothing came", -11, x.put(0, 0, 1), x.put(5, 0, 1));
        e.says(Edges.TERMS,
            "of 0 bytes, 1 shorts, 2 ints, 3 longs, 4 booleans, of 0 .. 60 elements, 0 at first (false)");
        for (int sort = 0; sort <= 4; sort++) {
            e.due("a row of none", x.row(sort, sort, 0), 1);
            e.dueEach("has no place", -13, x.put(sort, 0, 1), x.put(sort, -1, 1));
            e.due("a row of 60", x.row(sort, sort, 60), 1);
            for (int i = 0; i < 60; i++) {
                e.due("0 at first", x.element(sort, i), 0);
            }
            e.due("no place 60", x.put(sort, 60, 1), -13);
            e.due("place 59", x.put(sort, 59, 1), 1);
            e.due("place 59", x.element(sort, 59), 1);
        }
    }

    private static void rowAnew(Edges e) {
        e.says(Edges.TERMS, "0 at first (false)");
        GloveRegret x = new GloveRegret();
        x.row(0, 3, 60);
        for (int i = 0; i < 60; i++) {
            x.put(0, i, -1);
        }
        e.due("refused", x.row(0, 3, -1), -14);
        e.due("refused", x.row(0, 3, 61), BAD);
        e.dueAll("the row is still there", new long[] {x.element(0, 0), x.element(0, 59)}, -1, -1);
        e.due("a shorter row", x.row(0, 3, 2), 1);
        e.dueAll("0 anew", new long[] {x.element(0, 0), x.element(0, 1), x.element(0, 2)}, 0, 0, NONE);
        e.due("a longer one", x.row(0, 3, 60), 1);
        for (int i = 0; i < 60; i++) {
            e.due("0 anew", x.element(0, i), 0);
        }
        x.put(0, 3, 9);
        x.keep(0, -1);
        x.row(0, 3, 4);
        e.due("0 anew behind nothing", x.element(0, 3), 0);
    }

    private static void put(Edges e) {
        e.says(38, "Element i of a ROW becomes v: 1. BAD, -11, -12, -13.");
        GloveRegret x = new GloveRegret();
        x.row(1, 2, 3);
        x.keep(2, x.body(0));
        e.dueEach("no such shelf", BAD, x.put(-1, 0, 1), x.put(6, 0, 1), x.put(7, 0, 1), x.put(MIN, 0, 1), x.put(MAX,
            0, 1));
        e.dueEach("nothing", -11, x.put(0, 0, 1), x.put(5, 0, 1), x.put(0, -1, 1), x.put(0, MAX, 1));
        e.dueEach("a HOOK", -12, x.put(2, 0, 1), x.put(2, -1, 1), x.put(2, MAX, 1));
        e.dueEach("no such place", -13, x.put(1, -1, 1), x.put(1, 3, 1), x.put(1, 4, 1), x.put(1, 59, 1), x.put(1, 60,
            1),
            x.put(1, MIN, 1), x.put(1, MAX, 1));
        e.dueAll("none came", new long[] {x.element(1, 0), x.element(1, 1), x.element(1, 2)}, 0, 0, 0);
        e.dueEach("the first and the last", 1, x.put(1, 0, 7), x.put(1, 2, 9));
        e.dueAll("they came", new long[] {x.element(1, 0), x.element(1, 1), x.element(1, 2)}, 7, 0, 9);
    }

    private static void element(Edges e) {
        e.says(39, "Element i of a ROW; Long.MIN_VALUE: BAD, -11 to -13.");
        GloveRegret x = new GloveRegret();
        x.row(1, 3, 2);
        x.put(1, 1, -1);
        x.keep(2, x.body(0));
        e.dueEach("no such shelf", NONE, x.element(-1, 0), x.element(6, 0), x.element(7, 0), x.element(MIN, 0),
            x.element(MAX, 0));
        e.dueEach("nothing", NONE, x.element(0, 0), x.element(5, 0));
        e.due("a HOOK", x.element(2, 0), NONE);
        e.dueEach("no such place", NONE, x.element(1, -1), x.element(1, 2), x.element(1, 3), x.element(1, 60),
            x.element(1, MIN), x.element(1, MAX));
        e.dueAll("elements", new long[] {x.element(1, 0), x.element(1, 1)}, 0, -1);
        x.put(1, 1, NONE);
        e.due("the least long is an element, too", x.element(1, 1), NONE);
        x.put(1, 1, Long.MAX_VALUE);
        e.due("the largest", x.element(1, 1), Long.MAX_VALUE);
    }

    private static void lowestBits(Edges e) {
        e.says(Edges.TERMS, "what is put in keeps its lowest bits (a boolean: whether it is not 0; 1 or 0)");
        GloveRegret x = new GloveRegret();
        for (int sort = 0; sort <= 4; sort++) {
            x.row(sort, sort, 1);
        }
        long[][] told = {
            {127, 127, 127, 127, 127, 1}, {128, -128, 128, 128, 128, 1}, {255, -1, 255, 255, 255, 1},
            {256, 0, 256, 256, 256, 1}, {-128, -128, -128, -128, -128, 1}, {-129, 127, -129, -129, -129, 1},
            {32767, -1, 32767, 32767, 32767, 1}, {32768, 0, -32768, 32768, 32768, 1},
            {65536, 0, 0, 65536, 65536, 1}, {-32769, -1, 32767, -32769, -32769, 1},
            {1L << 31, 0, 0, MIN, 1L << 31, 1}, {(1L << 32) + 5, 5, 5, 5, (1L << 32) + 5, 1},
            {1L << 32, 0, 0, 0, 1L << 32, 1}, {NONE, 0, 0, 0, NONE, 1}, {-1, -1, -1, -1, -1, 1},
            {Long.MAX_VALUE, -1, -1, -1, Long.MAX_VALUE, 1}, {2, 2, 2, 2, 2, 1}, {0, 0, 0, 0, 0, 0}};
        for (long[] one : told) {
            for (int sort = 0; sort <= 4; sort++) {
                e.due("put", x.put(sort, 0, one[0]), 1);
                e.due(one[0] + " in sort " + sort, x.element(sort, 0), one[1 + sort]);
            }
        }
    }

    private static long[] elements(GloveRegret x, int shelf, int n) {
        long[] all = new long[n];
        for (int i = 0; i < n; i++) {
            all[i] = x.element(shelf, i);
        }
        return all;
    }

    private static void shift(Edges e) {
        e.says(40,
            "n elements of a ROW from i on come to another one (or the same) from j on, as they all were before: n.");
        int[][] within = {{0, 1, 4}, {1, 0, 4}, {0, 2, 3}, {2, 0, 3}, {0, 0, 5}, {3, 4, 1}, {1, 2, 3}};
        long[][] due = {{1, 1, 2, 3, 4}, {2, 3, 4, 5, 5}, {1, 2, 1, 2, 3}, {3, 4, 5, 4, 5}, {1, 2, 3, 4, 5},
            {1, 2, 3, 4, 4}, {1, 2, 2, 3, 4}};
        for (int k = 0; k < within.length; k++) {
            GloveRegret x = new GloveRegret();
            Check.bytes(x, 0, 1, 2, 3, 4, 5);
            e.due("within", x.shift(0, within[k][0], 0, within[k][1], within[k][2]), within[k][2]);
            e.dueAll("within", elements(x, 0, 5), due[k]);
        }
        for (int sort = 0; sort <= 4; sort++) {
            GloveRegret x = new GloveRegret();
            x.row(1, sort, 60);
            x.row(4, sort, 60);
            for (int i = 0; i < 60; i++) {
                x.put(1, i, i % 2);
            }
            e.due("a whole row of sort " + sort, x.shift(1, 0, 4, 0, 60), 60);
            for (int i = 0; i < 60; i++) {
                e.due("came", x.element(4, i), i % 2);
            }
        }
    }

    private static void shiftRefused(Edges e) {
        e.says(40, "BAD, -11 (either), -12 (no ROWS, or of unlike sorts), -13.");
        GloveRegret x = new GloveRegret();
        Check.bytes(x, 0, 1, 2, 3);
        Check.bytes(x, 1, 4, 5, 6, 7);
        x.keep(2, x.body(0));
        e.dueEach("no such shelf", BAD, x.shift(-1, 0, 1, 0, 1), x.shift(6, 0, 1, 0, 1), x.shift(MIN, 0, 1, 0, 1),
            x.shift(MAX, 0, 1, 0, 1));
        e.dueEach("no such other", BAD, x.shift(0, 0, -1, 0, 1), x.shift(0, 0, 6, 0, 1), x.shift(0, 0, MIN, 0, 1),
            x.shift(0, 0, MAX, 0, 1));
        e.dueEach("BAD ahead of all", BAD, x.shift(3, 9, 6, 0, 1), x.shift(6, 9, 3, 0, 1), x.shift(2, 9, 6, 0, -1));
        e.dueEach("nothing, either", -11, x.shift(3, 0, 0, 0, 1), x.shift(0, 0, 3, 0, 1), x.shift(3, 0, 3, 0, 0));
        e.dueEach("-11 ahead of -12, -13", -11, x.shift(3, 0, 2, 0, 1), x.shift(2, 0, 3, 0, 1), x.shift(0, 9, 3, 0, 1),
            x.shift(3, -1, 0, 0, -1));
        e.dueEach("a HOOK", -12, x.shift(2, 0, 0, 0, 1), x.shift(0, 0, 2, 0, 1), x.shift(2, 0, 2, 0, 0));
        for (int sort = 1; sort <= 4; sort++) {
            x.row(4, sort, 3);
            e.dueEach("of unlike sorts", -12, x.shift(0, 0, 4, 0, 1), x.shift(4, 0, 0, 0, 1), x.shift(0, 0, 4, 0, 0));
        }
        e.dueEach("-12 ahead of -13", -12, x.shift(0, 9, 4, 0, 1), x.shift(4, 0, 0, 0, -1), x.shift(2, 9, 0, 9, 9));
        e.dueAll("all is as it was", elements(x, 0, 3), 1, 2, 3);
        e.dueAll("there, too", elements(x, 1, 4), 4, 5, 6, 7);
    }

    private static void shiftAtBounds(Edges e) {
        e.says(40, "-13.");
        GloveRegret x = new GloveRegret();
        Check.bytes(x, 0, 1, 2, 3);
        Check.bytes(x, 1, 4, 5, 6, 7);
        e.dueEach("from ahead of the row", -13, x.shift(0, -1, 1, 0, 1), x.shift(0, MIN, 1, 0, 1), x.shift(0, -1, 1, 0,
            0));
        e.dueEach("from behind it", -13, x.shift(0, 3, 1, 0, 1), x.shift(0, 1, 1, 0, 3), x.shift(0, 4, 1, 0, 0),
            x.shift(0, MAX, 1, 0, 1), x.shift(0, MAX, 1, 0, 0));
        e.dueEach("to ahead of the row", -13, x.shift(0, 0, 1, -1, 1), x.shift(0, 0, 1, MIN, 1), x.shift(0, 0, 1, -1,
            0));
        e.dueEach("to behind it", -13, x.shift(0, 0, 1, 4, 1), x.shift(0, 0, 1, 2, 3), x.shift(0, 0, 1, 5, 0),
            x.shift(0, 0, 1, MAX, 1), x.shift(0, 0, 1, MAX, 0));
        e.dueEach("so many", -13, x.shift(1, 0, 0, 0, 4), x.shift(0, 0, 1, 0, 4), x.shift(0, 1, 1, 1, MAX),
            x.shift(0, 0, 1, 0, MAX));
        e.dueEach("less than none", -13, x.shift(0, 0, 1, 0, -1), x.shift(0, 2, 1, 2, -2), x.shift(0, 0, 1, 0, MIN));
        e.dueAll("none came", elements(x, 1, 4), 4, 5, 6, 7);
        e.dueEach("none at the end of both", 0, x.shift(0, 3, 1, 4, 0), x.shift(0, 0, 1, 0, 0));
        e.due("the last to the last", x.shift(0, 2, 1, 3, 1), 1);
        e.due("three to the end", x.shift(0, 0, 1, 1, 3), 3);
        e.dueAll("they came", elements(x, 1, 4), 4, 1, 2, 3);
        x.row(2, 0, 0);
        e.dueEach("none of none", 0, x.shift(2, 0, 2, 0, 0), x.shift(2, 0, 0, 3, 0));
        e.dueEach("one of none", -13, x.shift(2, 0, 0, 0, 1), x.shift(0, 0, 2, 0, 1));
    }

    private static void taken(Edges e) {
        e.says(41, "What a SHELF holds, taken for a HOOK of KIND k (0 .. 7), or under it: its KIND. BAD, -11, -12.");
        GloveRegret x = new GloveRegret();
        e.dueEach("no such shelf", BAD, x.taken(-1, 0), x.taken(6, 0), x.taken(7, 0), x.taken(MIN, 0), x.taken(MAX, 0));
        e.dueEach("no such KIND", BAD, x.taken(0, -1), x.taken(0, 8), x.taken(0, 9), x.taken(0, MIN), x.taken(0, MAX));
        for (int k = 0; k <= 7; k++) {
            e.due("nothing", x.taken(0, k), -11);
        }
        for (int sort = 0; sort <= 4; sort++) {
            x.row(0, sort, 1);
            e.dueEach("a row", -12, x.taken(0, 0), x.taken(0, 7));
            e.due("BAD ahead of -12", x.taken(0, 8), BAD);
        }
        // under HOOK all, under TRAY 4 and 7, under SOCK 3 and 5, under WIT 5, under STAIR 7
        boolean[][] isUnder = new boolean[8][8];
        int[][] chains = {{0}, {1, 0}, {2, 0}, {3, 2, 0}, {4, 1, 0}, {5, 3, 2, 0}, {6, 0}, {7, 4, 1, 0}};
        for (int[] chain : chains) {
            for (int k : chain) {
                isUnder[chain[0]][k] = true;
            }
        }
        for (int kind = 0; kind <= 7; kind++) {
            x.keep(5, x.body(kind));
            for (int k = 0; k <= 7; k++) {
                e.due("KIND " + kind + " for " + k, x.taken(5, k), isUnder[kind][k] ? kind : -12);
            }
        }
        e.due("it is not taken away", x.taken(5, 7), 7);
    }

    private static void count(Edges e) {
        e.says(42, "5 bodies that ran in the latest act(). BAD.");
        GloveRegret x = new GloveRegret();
        e.dueEach("no such what", BAD, x.count(-1), x.count(6), x.count(7), x.count(MIN), x.count(MAX));
        e.due("no act() yet", x.count(5), 0);
        x.body(7);
        x.act(0, 3, 0);
        e.due("so many", x.count(5), 14);
        x.act(0, 4, 0);
        e.due("none", x.count(5), 0);
        e.says(42, "How many: 0 GUESTS, 1 SLIPS, 2 bytes on THE TAPE, 3 changes that may be UNDONE, 4 BODIES");
        for (int g = 0; g < 11; g++) {
            x.guest(1, 7);
            e.due("GUESTS", x.count(0), Math.min(9, g + 1));
        }
        for (int s = 0; s < 14; s++) {
            x.slip(0, 0, 1);
            e.due("SLIPS", x.count(1), Math.min(12, s + 1));
        }
        for (int i = 0; i < 122; i++) {
            x.feed('r');
            e.due("bytes", x.count(2), Math.min(120, i + 1));
        }
        x.goes();
        e.due("those who are GONE are GUESTS", x.count(0), 9);
        for (int i = 1; i < 43; i++) {
            x.mend(0, 0, i);
            e.due("changes", x.count(3), Math.min(40, i));
        }
        x.undo();
        e.due("one less", x.count(3), 39);
        x.redo();
        e.due("one more", x.count(3), 40);
        for (int n = 1; n < 52; n++) {
            x.body(0);
            e.due("BODIES", x.count(4), Math.min(50, n + 1));
        }
    }
}
