/** Counts and prints the answers that are not as due; what the tests of the project share. */
final class Check {
    private int asked = 0;
    private int wrong = 0;

    void due(String call, long got, long want) {
        asked++;
        if (got != want) {
            wrong++;
            System.out.println(call + " answered " + got + ", due is " + want);
        }
    }

    /** Several answers of one kind of call, one behind the other. */
    void dueAll(String calls, long[] got, long... want) {
        due(calls + ": how many", got.length, want.length);
        for (int i = 0; i < got.length && i < want.length; i++) {
            due(calls + " [" + i + "]", got[i], want[i]);
        }
    }

    void end() {
        System.out.println(asked + " answers, " + wrong + " not as due");
        if (wrong != 0) {
            System.exit(1);
        }
    }

    static int law(GloveRegret x, String text) {
        for (int i = 0; i < text.length(); i++) {
            x.feed(text.charAt(i));
        }
        return x.law();
    }

    static void bytes(GloveRegret x, int shelf, int... values) {
        x.row(shelf, 0, values.length);
        for (int i = 0; i < values.length; i++) {
            x.put(shelf, i, values[i]);
        }
    }

    /** READ 20, 30 - 5 and 18; by the minute 1, 2 and nothing less. */
    static GloveRegret three() {
        GloveRegret x = new GloveRegret();
        x.guest(1, 7);
        x.guest(0, 7);
        x.guest(1, 6);
        x.mend(0, 0, 20);
        x.mend(1, 0, 30);
        x.mend(1, 1, 2);
        x.mend(2, 2, 9);
        return x;
    }

    /** All that calls can tell of an object without changing it, as a text to compare. */
    static String seen(GloveRegret x) {
        StringBuilder all = new StringBuilder();
        for (int what = 0; what <= 9; what++) {
            for (int number = 0; number < 12; number++) {
                all.append(x.of(number, what)).append(' ');
            }
        }
        for (int what = 0; what < 6; what++) {
            all.append(x.count(what)).append(' ').append(x.led(what)).append(' ');
        }
        for (int i = 0; i < 24; i++) {
            all.append(x.trace(i)).append(' ');
        }
        for (int shelf = 0; shelf < 6; shelf++) {
            all.append(x.taken(shelf, 0)).append(' ').append(x.judge(shelf)).append(' ');
            for (int i = 0; i < 60; i++) {
                all.append(x.element(shelf, i)).append(' ');
            }
        }
        for (int g = 0; g < 9; g++) {
            all.append(x.later(0, g, 0)).append(' ').append(x.later(7, g, 0)).append(' ');
        }
        return all.toString();
    }
}
