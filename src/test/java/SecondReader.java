import java.util.Random;

/** Goes down the grammar as it stands in the document, and works out as it goes. */
final class SecondReader {
    private static final class Fault extends RuntimeException {
        private static final long serialVersionUID = 1L;
        final int place;

        Fault(int place) {
            this.place = place;
        }
    }

    private final String text;
    private int place = 0;
    private int worth = 0;
    /** What r, l, h, m, n, g are. */
    private final int[] names;

    SecondReader(String text, int... names) {
        this.text = text;
        this.names = names;
    }

    int fault() {
        try {
            lines();
            return -1;
        } catch (Fault f) {
            return f.place;
        }
    }

    int worth() {
        return worth;
    }

    private char next() {
        return place < text.length() ? text.charAt(place) : 0;
    }

    private boolean takes(char c) {
        if (place < text.length() && next() == c) {
            place++;
            return true;
        }
        return false;
    }

    private void lines() {
        boolean counted = false;
        do {
            int first = e(0);
            boolean counts = true;
            int then = first;
            if (takes('?')) {
                counts = first != 0;
                then = e(0);
            }
            if (counts && !counted) {
                counted = true;
                worth = then;
            }
        } while (takes(';'));
        if (place < text.length()) {
            throw new Fault(place);
        }
    }

    private int e(int open) {
        int v = a(open);
        while (takes('|')) {
            v = (v != 0) | (a(open) != 0) ? 1 : 0;
        }
        return v;
    }

    private int a(int open) {
        int v = b(open);
        while (takes('&')) {
            v = (v != 0) & (b(open) != 0) ? 1 : 0;
        }
        return v;
    }

    private int b(int open) {
        int v = s(open);
        if (takes('<')) {
            return v < s(open) ? 1 : 0;
        }
        if (takes('=')) {
            return v == s(open) ? 1 : 0;
        }
        if (takes('>')) {
            return v > s(open) ? 1 : 0;
        }
        return v;
    }

    private int s(int open) {
        int v = p(open);
        while (true) {
            if (takes('+')) {
                v += p(open);
            } else if (takes('-')) {
                v -= p(open);
            } else {
                return v;
            }
        }
    }

    private int p(int open) {
        int v = o(open);
        while (true) {
            if (takes('*')) {
                v *= o(open);
            } else if (takes('/')) {
                int w = o(open);
                v = w == 0 ? 0 : v / w;
            } else if (takes('%')) {
                int w = o(open);
                v = w == 0 ? 0 : v % w;
            } else {
                return v;
            }
        }
    }

    private int o(int open) {
        char c = next();
        if (Character.isDigit(c)) {
            int from = place;
            while (Character.isDigit(next()) && place - from < 4) {
                place++;
            }
            return Integer.parseInt(text.substring(from, place));
        }
        if (c != 0 && "rlhmng".indexOf(c) >= 0) {
            place++;
            return names["rlhmng".indexOf(c)];
        }
        if ((c == '!' || c == '-' || c == '(') && open < 6) {
            place++;
            if (c == '(') {
                int v = e(open + 1);
                if (!takes(')')) {
                    throw new Fault(place);
                }
                return v;
            }
            int v = o(open + 1);
            return c == '-' ? -v : v == 0 ? 1 : 0;
        }
        throw new Fault(place);
    }

    // ---- texts by draws

    static void writeText(StringBuilder to, Random random) {
        do {
            if (to.length() > 0) {
                to.append(';');
            }
            writeE(to, random, 0);
            if (random.nextInt(3) > 0) {
                to.append('?');
                writeE(to, random, 0);
            }
        } while (random.nextInt(3) > 0);
    }

    private static void writeE(StringBuilder to, Random random, int open) {
        writeO(to, random, open);
        while (random.nextInt(5) > 1) {
            to.append("|&<=>+-*/%".charAt(random.nextInt(10)));
            writeO(to, random, open);
        }
    }

    private static void writeO(StringBuilder to, Random random, int open) {
        int kind = random.nextInt(open < 6 ? 8 : 5);
        if (kind < 3) {
            to.append("rlhmng".charAt(random.nextInt(6)));
        } else if (kind < 5) {
            to.append(random.nextInt(random.nextBoolean() ? 10 : 10000));
        } else if (kind == 5) {
            to.append('(');
            writeE(to, random, open + 1);
            to.append(')');
        } else {
            to.append(kind == 6 ? '!' : '-');
            writeO(to, random, open + 1);
        }
    }
}
