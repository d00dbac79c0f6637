/** Promises 36 to 42, worked out by hand. */
public final class ShelfTest {
    private static final int BAD = GloveRegret.BAD;
    private static final long NONE = Long.MIN_VALUE;
    private static final Check check = new Check();

    public static void main(String[] args) {
        keep();
        row();
        putAndElement();
        lowestBits();
        shift();
        shiftWithin();
        taken();
        count();
        check.end();
    }

    private static void keep() {
        GloveRegret x = new GloveRegret();
        check.due("no such hook", x.keep(0, 0), BAD);
        x.body(3);
        check.due("keep(0, 0)", x.keep(0, 0), 1);
        check.due("it is there", x.taken(0, 0), 3);
        check.due("keep(-1, 0)", x.keep(-1, 0), BAD);
        check.due("keep(6, 0)", x.keep(6, 0), BAD);
        check.due("keep(0, -2)", x.keep(0, -2), BAD);
        check.due("keep(0, 1)", x.keep(0, 1), BAD);
        check.due("still there", x.taken(0, 0), 3);
        check.due("keep(0, -1)", x.keep(0, -1), 1);
        check.due("nothing there", x.taken(0, 0), -11);
        x.row(0, 0, 3);
        check.due("in place of a row", x.keep(0, 0), 1);
        check.due("the hook", x.taken(0, 3), 3);
        check.due("no row", x.put(0, 0, 1), -12);
        x.row(0, 0, 3);
        check.due("nothing in place of a row", x.keep(0, -1), 1);
        check.due("no row is there", x.put(0, 0, 1), -11);
    }

    private static void row() {
        GloveRegret x = new GloveRegret();
        check.due("shelf -1", x.row(-1, 0, 1), BAD);
        check.due("shelf 6", x.row(6, 0, 1), BAD);
        check.due("sort -1", x.row(0, -1, 1), BAD);
        check.due("sort 5", x.row(0, 5, 1), BAD);
        check.due("n 61", x.row(0, 0, 61), BAD);
        check.due("n -1", x.row(0, 0, -1), -14);
        check.due("n MIN", x.row(0, 0, Integer.MIN_VALUE), -14);
        check.due("BAD ahead of -14", x.row(0, 5, -1), BAD);
        check.due("nothing came", x.put(0, 0, 1), -11);
        check.due("n 0", x.row(0, 0, 0), 1);
        check.due("no place", x.put(0, 0, 1), -13);
        check.due("n 60", x.row(0, 3, 60), 1);
        for (int i = 0; i < 60; i++) {
            x.put(0, i, 100 + i);
        }
        check.due("the last", x.element(0, 59), 159);
        check.due("refused", x.row(0, 3, -1), -14);
        check.due("the last still", x.element(0, 59), 159);
        check.due("anew", x.row(0, 2, 60), 1);
        for (int i = 0; i < 60; i++) {
            check.due("0 at first", x.element(0, i), 0);
        }
    }

    private static void putAndElement() {
        GloveRegret x = new GloveRegret();
        x.row(5, 2, 3);
        check.due("put", x.put(5, 2, 7), 1);
        check.due("element", x.element(5, 2), 7);
        check.due("put 3", x.put(5, 3, 7), -13);
        check.due("put -1", x.put(5, -1, 7), -13);
        check.due("put MIN", x.put(5, Integer.MIN_VALUE, 7), -13);
        check.due("put on shelf 6", x.put(6, 0, 7), BAD);
        check.due("put on shelf -1", x.put(-1, 0, 7), BAD);
        check.due("put on nothing", x.put(4, 0, 7), -11);
        x.body(0);
        x.keep(3, 0);
        check.due("put on a hook", x.put(3, 0, 7), -12);
        check.due("-11 ahead of -13", x.put(4, -1, 7), -11);
        check.due("-12 ahead of -13", x.put(3, -1, 7), -12);
        check.due("element 3", x.element(5, 3), NONE);
        check.due("element -1", x.element(5, -1), NONE);
        check.due("element on shelf 6", x.element(6, 0), NONE);
        check.due("element on shelf -1", x.element(-1, 0), NONE);
        check.due("element of nothing", x.element(4, 0), NONE);
        check.due("element of a hook", x.element(3, 0), NONE);
    }

    private static void lowestBits() {
        GloveRegret x = new GloveRegret();
        for (int sort = 0; sort < 5; sort++) {
            x.row(sort, sort, 1);
        }
        long[] values = {0, 1, -1, 127, 128, 255, 256, 32768, 65536, 1L << 31, 1L << 32, NONE, Long.MAX_VALUE, -300};
        for (long v : values) {
            long[] due = {(byte) v, (short) v, (int) v, v, v != 0 ? 1 : 0};
            for (int sort = 0; sort < 5; sort++) {
                check.due("put", x.put(sort, 0, v), 1);
                check.due("sort " + sort + " of " + v, x.element(sort, 0), due[sort]);
            }
        }
    }

    private static void shift() {
        GloveRegret x = new GloveRegret();
        Check.bytes(x, 0, 1, 2, 3, 4, 5);
        x.row(1, 0, 3);
        check.due("shift", x.shift(0, 1, 1, 0, 3), 3);
        check.dueAll("to", new long[] {x.element(1, 0), x.element(1, 1), x.element(1, 2)}, 2, 3, 4);
        check.due("from stays", x.element(0, 1), 2);
        check.due("none", x.shift(0, 5, 1, 3, 0), 0);
        check.due("none, beyond", x.shift(0, 6, 1, 3, 0), -13);
        check.due("none, beyond there", x.shift(0, 5, 1, 4, 0), -13);
        check.due("from too far", x.shift(0, 3, 1, 0, 3), -13);
        check.due("to too far", x.shift(0, 0, 1, 1, 3), -13);
        check.due("from -1", x.shift(0, -1, 1, 0, 1), -13);
        check.due("to -1", x.shift(0, 0, 1, -1, 1), -13);
        check.due("n -1", x.shift(0, 1, 1, 1, -1), -13);
        check.due("n MAX", x.shift(0, 1, 1, 1, Integer.MAX_VALUE), -13);
        check.due("i MAX", x.shift(0, Integer.MAX_VALUE, 1, 1, 1), -13);
        check.due("shelf 6", x.shift(6, 0, 1, 0, 1), BAD);
        check.due("other -1", x.shift(0, 0, -1, 0, 1), BAD);
        check.due("from nothing", x.shift(2, 0, 1, 0, 1), -11);
        check.due("to nothing", x.shift(0, 0, 2, 0, 1), -11);
        x.row(3, 4, 3);
        check.due("of unlike sorts", x.shift(0, 0, 3, 0, 1), -12);
        check.due("-12 ahead of -13", x.shift(0, 9, 3, 0, 1), -12);
        x.body(0);
        x.keep(4, 0);
        check.due("from a hook", x.shift(4, 0, 1, 0, 1), -12);
        check.due("to a hook", x.shift(1, 0, 4, 0, 1), -12);
        check.due("hooks", x.shift(4, 0, 4, 0, 0), -12);
        check.due("-11 ahead of -12", x.shift(4, 0, 2, 0, 1), -11);
        check.dueAll("still", new long[] {x.element(1, 0), x.element(1, 1), x.element(1, 2)}, 2, 3, 4);
    }

    private static void shiftWithin() {
        GloveRegret x = new GloveRegret();
        Check.bytes(x, 0, 1, 2, 3, 4, 5);
        check.due("up", x.shift(0, 0, 0, 1, 4), 4);
        check.dueAll("up", elements(x, 5), 1, 1, 2, 3, 4);
        Check.bytes(x, 0, 1, 2, 3, 4, 5);
        check.due("down", x.shift(0, 2, 0, 0, 3), 3);
        check.dueAll("down", elements(x, 5), 3, 4, 5, 4, 5);
    }

    private static long[] elements(GloveRegret x, int n) {
        long[] all = new long[n];
        for (int i = 0; i < n; i++) {
            all[i] = x.element(0, i);
        }
        return all;
    }

    private static void taken() {
        GloveRegret x = new GloveRegret();
        // for each KIND those that it is of
        int[][] of = {{0}, {1, 0}, {2, 0}, {3, 2, 0}, {4, 1, 0}, {5, 3, 2, 0}, {6, 0}, {7, 4, 1, 0}};
        for (int kind = 0; kind < 8; kind++) {
            x.keep(0, x.body(kind));
            for (int k = 0; k < 8; k++) {
                boolean isOf = false;
                for (int one : of[kind]) {
                    isOf |= one == k;
                }
                check.due("KIND " + kind + " taken for " + k, x.taken(0, k), isOf ? kind : -12);
            }
        }
        check.due("taken(-1, 0)", x.taken(-1, 0), BAD);
        check.due("taken(6, 0)", x.taken(6, 0), BAD);
        check.due("taken(0, -1)", x.taken(0, -1), BAD);
        check.due("taken(0, 8)", x.taken(0, 8), BAD);
        check.due("nothing", x.taken(1, 0), -11);
        check.due("BAD ahead of -11", x.taken(1, 8), BAD);
        x.row(1, 0, 1);
        check.due("a row", x.taken(1, 0), -12);
    }

    private static void count() {
        GloveRegret x = new GloveRegret();
        x.guest(1, 7);
        x.guest(1, 7);
        x.slip(0, 0, 1);
        x.slip(0, 0, 1);
        x.slip(0, 0, 1);
        for (int i = 0; i < 4; i++) {
            x.feed('r');
        }
        for (int i = 1; i <= 5; i++) {
            x.mend(0, 0, i);
        }
        for (int i = 0; i < 6; i++) {
            x.body(1);
        }
        x.act(0, 1, 1);
        for (int what = 0; what < 5; what++) {
            check.due("count(" + what + ")", x.count(what), what + 2);
        }
        check.due("count(5)", x.count(5), 3);
        check.due("count(6)", x.count(6), BAD);
        check.due("count(-1)", x.count(-1), BAD);
        x.undo();
        check.due("count(3)", x.count(3), 4);
    }
}
