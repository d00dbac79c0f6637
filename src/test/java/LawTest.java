import java.util.Random;

/** Promise 8: faults and worths, told by hand and by a second reader that goes down the grammar. */
public final class LawTest {
    private static final Check check = new Check();

    public static void main(String[] args) {
        faults();
        worths();
        emptyAndStaying();
        whoIsLeftAndMinute();
        allShortTexts();
        randomTexts();
        check.end();
    }

    private static void fault(String text, int place) {
        check.due("law of " + text, Check.law(new GloveRegret(), text), place < 0 ? 1 : -100 - place);
    }

    private static void faults() {
        fault("", 0);
        fault("r", -1);
        fault(" r", 0);
        fault("x", 0);
        fault("r ", 1);
        fault("1234", -1);
        fault("12345", 4);
        fault("0000", -1);
        fault("r1", 1);
        fault("1r", 1);
        fault("(r)1", 3);
        fault("r+", 2);
        fault("+r", 0);
        fault("r;", 2);
        fault(";r", 0);
        fault("r;;r", 2);
        fault("r?", 2);
        fault("r?l", -1);
        fault("r?l?h", 3);
        fault("r?l;r?l", -1);
        fault("(r?l)", 2);
        fault("(r;l)", 2);
        fault("r)", 1);
        fault("()", 1);
        fault("(r", 2);
        fault("r<l<h", 3);
        fault("r<l+1=h", 5);
        fault("r<(l<h)", -1);
        fault("r<l&h<m", -1);
        fault("r<l|h=m", -1);
        fault("r--r", -1);
        fault("r~r", 1);
        fault("~r", 0);
        fault("r!r", 1);
        fault("!!!!!!r", -1);
        fault("!!!!!!!r", 6);
        fault("((((((r))))))", -1);
        fault("(((((((r)))))))", 6);
        fault("-(-(-(r)))", -1);
        fault("-(-(-(-r)))", 6);
        fault("-(-(-(r)))+-(-(-(r)))", -1);
        fault("!!!!!!r+!!!!!!r", -1);
        fault("(!(!r)+!(!(!r)))", -1);
        fault("1-2-3-4-5-6-7-8-9", -1);
        StringBuilder full = new StringBuilder("1");
        for (int i = 0; i < 59; i++) {
            full.append("+1");
        }
        fault(full + "+", 120);
        fault(full.toString(), -1);
        fault("r" + (char) 0, 1);
        fault("r" + (char) 255, 1);
    }

    /** REGRET 40, LOOKS 3, right, MINUTE 6, number 1, three are left. */
    private static GloveRegret three() {
        GloveRegret x = new GloveRegret();
        for (int g = 0; g < 4; g++) {
            x.guest(1, 7);
        }
        x.mend(3, 5, 1);
        x.mend(1, 0, 40);
        x.mend(1, 2, 3);
        x.mend(0, 8, 6);
        return x;
    }

    private static void worth(String text, int want) {
        GloveRegret x = three();
        check.due("law of " + text, Check.law(x, text), 1);
        check.due("read by " + text, x.later(0, 1, 0), want);
    }

    private static void worths() {
        worth("r", 40);
        worth("l", 3);
        worth("h", 1);
        worth("m", 6);
        worth("n", 3);
        worth("g", 1);
        worth("r+l*2", 46);
        worth("(r+l)*2", 86);
        worth("9999", 99);
        worth("-r", 0);
        worth("50-r-5", 5);
        worth("50-(r-5)", 15);
        worth("-r+50", 10);
        worth("-3*-4", 12);
        worth("90/4/3", 7);
        worth("r%7", 5);
        worth("-7/2+10", 7);
        worth("-7%3+10", 9);
        worth("7/0+5", 5);
        worth("7%0+5", 5);
        worth("r/(l-3)", 0);
        worth("!r", 0);
        worth("!0", 1);
        worth("!!r", 1);
        worth("!r=0", 1);
        worth("r=40", 1);
        worth("r<40", 0);
        worth("r>39", 1);
        worth("7|0", 1);
        worth("7&2", 1);
        worth("7&0", 0);
        worth("0|0", 0);
        worth("1|0&0", 1);
        worth("(1|0)&0", 0);
        worth("2+3>4&5", 1);
        worth("5|3<2", 1);
        worth("0?50;60", 60);
        worth("5?50;60", 50);
        worth("0-1?50;60", 50);
        worth("0?50", 0);
        worth("0?50;r=40?l;60", 3);
        worth("33;44", 33);
        worth("9999*9999*9999>0", 0);
        worth("9999*9999*9999<0", 1);
        // 2^31 comes of wrapping; by -1 it stays, and the machine does not mind
        worth("1024*1024*2048/-1<0", 1);
        worth("1024*1024*2048%-1+8", 8);
        longest();
    }

    /** 120 bytes, of which each one counts. */
    private static void longest() {
        StringBuilder text = new StringBuilder("-1");
        while (text.length() < 120) {
            text.append("+1");
        }
        worth(text.toString(), 58);
        text.setLength(118);
        worth(text + "*r", 96);
        worth("!!!!!!" + text.substring(7) + "+9", 65);
    }

    private static void emptyAndStaying() {
        GloveRegret x = three();
        check.due("without a text", x.later(0, 1, 0), 46);
        x.mend(1, 3, 0);
        check.due("without a text, left", x.later(0, 1, 0), 41);
        check.due("l*9", Check.law(x, "l*9"), 1);
        check.due("read by l*9", x.later(0, 1, 0), 27);
        check.due("a fault", Check.law(x, "l*"), -102);
        check.due("count(2) behind a fault", x.count(2), 0);
        check.due("the law stays", x.later(0, 1, 0), 27);
        check.due("an empty tape", x.law(), -100);
        check.due("the law stays again", x.later(0, 1, 0), 27);
        check.due("another one", Check.law(x, "5"), 1);
        check.due("read by 5", x.later(0, 1, 0), 5);
    }

    private static void whoIsLeftAndMinute() {
        GloveRegret x = new GloveRegret();
        x.guest(1, 7);
        x.guest(1, 7);
        x.guest(1, 7);
        Check.law(x, "n=3?g;n=2?9-g;m=2?50");
        check.due("the third goes first", x.goesAs(0, 0), 2);
        check.due("then the first", x.goesAs(0, 1), 0);
        check.due("then the second", x.goesAs(0, 2), 1);
        Check.law(x, "m*10");
        check.due("behind 4", x.later(4, 0, 0), 40);
        x.mend(0, 8, 198);
        Check.law(x, "m-190");
        check.due("199 stays", x.later(4, 0, 0), 9);
        Check.law(x, "n*10+g");
        x.mend(1, 5, 1);
        check.due("one who is GONE is read, too", x.later(0, 1, 0), 21);
    }

    private static void allShortTexts() {
        char[] signs = {'r', '7', '-', '!', '(', ')', '<', '+', '?', ';', '|', 'z'};
        GloveRegret x = three();
        char[] text = new char[5];
        int many = 1;
        for (int length = 0; length <= 5; length++) {
            for (int code = 0; code < many; code++) {
                int left = code;
                for (int i = 0; i < length; i++) {
                    text[i] = signs[left % signs.length];
                    left /= signs.length;
                }
                bothReaders(x, new String(text, 0, length));
            }
            many *= signs.length;
        }
    }

    private static void randomTexts() {
        Random random = new Random(7);
        String signs = "rlhmng0123456789|&<=>+-*/%!();?";
        for (int i = 0; i < 20000; i++) {
            StringBuilder text = new StringBuilder();
            SecondReader.writeText(text, random);
            if (i % 2 == 1 && text.length() > 0) {
                int at = random.nextInt(text.length());
                text.setCharAt(at, signs.charAt(random.nextInt(signs.length())));
            }
            text.setLength(Math.min(text.length(), 120));
            bothReaders(three(), text.toString());
        }
    }

    private static void bothReaders(GloveRegret x, String text) {
        SecondReader second = new SecondReader(text, 40, 3, 1, 6, 3, 1);
        int fault = second.fault();
        int got = Check.law(x, text);
        if (got != (fault < 0 ? 1 : -100 - fault)) {
            check.due("both readers of " + text, got, fault < 0 ? 1 : -100 - fault);
        }
        if (fault < 0) {
            int read = Math.max(0, Math.min(99, second.worth()));
            if (x.later(0, 1, 0) != read) {
                check.due("both worths of " + text, x.later(0, 1, 0), read);
            }
        }
    }
}
