/** Boundary cases of promise 8: which TEXT is one, where its FAULT is, what it is worth at its bounds. */
final class LawEdges {
    private static final String GOES_ON = "|&<=>+-*/%?;";

    static void all(Edges e) {
        lines(e);
        signs(e);
        numbersAndNames(e);
        everyByte(e);
        open(e);
        openAgain(e);
        faults(e);
        lengths(e);
        wraps(e);
        divides(e);
        oneOrNothing(e);
        whichLineCounts(e);
        heldWithin(e);
        withoutText(e);
        names(e);
        tapeIsEmptyThen(e);
    }

    private static void isText(Edges e, String... texts) {
        for (String text : texts) {
            e.due("law of " + text, Check.law(new GloveRegret(), text), 1);
        }
    }

    private static void hasFault(Edges e, int place, String... texts) {
        for (String text : texts) {
            e.due("law of " + text, Check.law(new GloveRegret(), text), -100 - place);
        }
    }

    /** REGRET 40, LOOKS 3, left, MINUTE 6, number 1, two of three are left. */
    private static GloveRegret two() {
        GloveRegret x = new GloveRegret();
        for (int g = 0; g < 3; g++) {
            x.guest(0, 7);
        }
        x.mend(2, 5, 1);
        x.mend(1, 0, 40);
        x.mend(1, 2, 3);
        x.mend(0, 8, 6);
        return x;
    }

    private static void isRead(Edges e, int want, String... texts) {
        for (String text : texts) {
            GloveRegret x = two();
            e.due("law of " + text, Check.law(x, text), 1);
            e.due("READ by " + text, x.later(0, 1, 0), want);
        }
    }

    private static void lines(Edges e) {
        e.says(Edges.TERMS, "LINES, one or more, parted by ;");
        isText(e, "r", "r;r", "r;r;r;r;r;r");
        hasFault(e, 0, "", ";", ";r");
        hasFault(e, 2, "r;", "r;;", "r;;r");
        e.says(Edges.TERMS, "LINE: E, or E ? E (what counts if the first is not 0)");
        isText(e, "r?r", "r?r;r?r", "r;r?r;r");
        hasFault(e, 0, "?", "?r");
        hasFault(e, 2, "r?", "r??r", "r?;r");
        hasFault(e, 3, "r?r?r", "r?r?");
        hasFault(e, 2, "(r?r)", "(r;r)");
        hasFault(e, 7, "r;r;r?r?r");
    }

    private static void signs(Edges e) {
        e.says(Edges.TERMS, "E = A { | A }. A = B { & B }");
        isText(e, "r|r", "r|r|r|r", "r&r", "r&r&r&r", "r|r&r|r");
        hasFault(e, 0, "|r", "&r");
        hasFault(e, 2, "r|", "r&", "r||r", "r&&r", "r|&r");
        e.says(Edges.TERMS, "B = S, or S < S, S = S, S > S");
        isText(e, "r<r", "r=r", "r>r", "(r<r)<r", "r<(r<r)", "r<r&r<r", "r<r|r=r", "r<r?r>r;r=r", "(r<r)=(r>r)");
        hasFault(e, 0, "<r", "=r", ">r");
        hasFault(e, 2, "r<", "r=", "r>", "r<=r", "r==r", "r<>r");
        hasFault(e, 3, "r<r<r", "r=r=r", "r>r<r", "r<r=");
        hasFault(e, 5, "r+r<r>r", "r<r*r=r");
        hasFault(e, 4, "(r<r<r)");
        e.says(Edges.TERMS, "S = P { + P, - P }. P = O { * O, / O, % O }");
        isText(e, "r+r", "r-r", "r-r+r-r", "r--r", "r+-r", "r*r", "r/r", "r%r", "r*r/r%r", "r*-r", "r/!r");
        hasFault(e, 0, "+r", "*r", "/r", "%r");
        hasFault(e, 2, "r+", "r-", "r*", "r/", "r%", "r++r", "r-+r", "r**r", "r//r");
        isRead(e, 14, "20-1-2-3", "2+3*4", "28/2", "56/2/2", "7*2");
        isRead(e, 6, "20-(9+5)", "56/4%8", "2*10/3", "6+9*(2/3)");
    }

    private static void numbersAndNames(Edges e) {
        e.says(Edges.TERMS, "O = a number (1 to 4 digits), a NAME, ! O, - O, ( E ). No blanks.");
        isText(e, "0", "9", "00", "10", "000", "999", "0000", "9999", "r", "!r", "-r", "(r)", "!0", "-0", "-(!(r))");
        hasFault(e, 4, "00000", "12345", "9999r", "9999(", "00010");
        hasFault(e, 1, "r0", "0r", "rr", "r(", "r!r", "0!", "()", "(+r)");
        hasFault(e, 3, "(r)0", "(r)r", "(r)(r)", "(r)!r");
        hasFault(e, 6, "1+99999", "(1)*12)");
        hasFault(e, 0, " ", " r", "\nr");
        hasFault(e, 1, "r ", "r +r", "( r)", "1 ", "1 2", "- r");
        hasFault(e, 2, "r+ r", "r; r", "(r )");
        isRead(e, 9, "9", "09", "009", "0009");
    }

    /** Each byte on its own, behind a name, behind a digit. */
    private static void everyByte(Edges e) {
        e.says(Edges.TERMS,
            "NAMES: r REGRET, l LOOKS, h HAND, m MINUTE, n how many GUESTS are not GONE, g his number.");
        for (int c = 0; c <= 255; c++) {
            GloveRegret x = new GloveRegret();
            boolean isDigit = c >= '0' && c <= '9';
            boolean isO = isDigit || "rlhmng".indexOf(c) >= 0;
            boolean isAhead = "(!-".indexOf(c) >= 0;
            x.feed(c);
            e.due("law of byte " + c, x.law(), isO ? 1 : isAhead ? -101 : -100);
            x.feed('r');
            x.feed(c);
            e.due("law of r and byte " + c, x.law(), GOES_ON.indexOf(c) >= 0 ? -102 : -101);
            x.feed('5');
            x.feed(c);
            e.due("law of 5 and byte " + c, x.law(), isDigit ? 1 : GOES_ON.indexOf(c) >= 0 ? -102 : -101);
        }
    }

    private static void open(Edges e) {
        e.says(Edges.TERMS, "At most 6 of ( ! - ahead of an O are open at once.");
        isText(e, "((((((r))))))", "!!!!!!r", "------r", "(!-(!-r))", "-!(-!(r))", "(((!!!r)))");
        hasFault(e, 6, "(((((((r)))))))", "!!!!!!!r", "-------r", "(!-(!-(r)))", "-!(-!((r)))", "(((!!!-r)))",
            "!!!!!!(", "------(");
        hasFault(e, 7, "((((((r", "!!!!!!r)");
        isText(e, "((((((r-r-r-r))))))", "((((((1-1))))))");
        hasFault(e, 8, "((((((r--r))))))", "((((((r*!r))))))", "((((((r+(r)))))))");
    }

    private static void openAgain(Edges e) {
        e.says(Edges.TERMS, "ahead of an O are open at once");
        isText(e, "!!!!!!r+!!!!!!r", "((((((r))))))*((((((r))))))", "!!!!!!r?!!!!!!r;------r", "(((((!r+!r+!r)))))");
        isText(e, "!((((!r))))-!((((!r))))", "-(r)-(r)-(r)-(r)-(r)-(r)-(r)-(r)", "!(r)+!!!!!!r", "(!r+!!!!!r)");
        hasFault(e, 9, "(!r+!!!!!!r)");
        hasFault(e, 14, "!!!!!!r+!!!!!!!r");
        hasFault(e, 20, "((((((r))))))+(((((((r)))))))");
        hasFault(e, 11, "(((!r)+(((((r)))))))");
    }

    private static void faults(Edges e) {
        e.says(Edges.TERMS, "FAULT: the place (from 0) of the first byte with which no TEXT goes on");
        hasFault(e, 0, "x", "xr", ")", "R");
        hasFault(e, 1, "r)", "r)+", "rx", "r~r", "-)");
        hasFault(e, 3, "(r)x", "(r))", "r+r)", "r+1_");
        hasFault(e, 4, "r+(r;", "r+(r?");
        e.says(Edges.TERMS, "the length, if it ends too early.");
        hasFault(e, 1, "(", "!", "-");
        hasFault(e, 2, "(r", "!(", "r+");
        hasFault(e, 3, "((r", "r+(", "(1+");
        hasFault(e, 4, "((r)", "r?r+", "r?r;");
        e.says(8, "-100 less its FAULT");
        hasFault(e, 0, "");
        hasFault(e, 5, "r+r+r@", "r+r+r#r");
    }

    private static void lengths(Edges e) {
        e.says(8, "THE TAPE becomes THE LAW: 1");
        StringBuilder text = new StringBuilder("r");
        while (text.length() < 119) {
            text.append("-r");
        }
        isText(e, text.toString(), text.substring(1), "!!!!!!" + text.substring(6));
        hasFault(e, 119, text + "x", text + ")");
        hasFault(e, 120, text + "-", text + ";", "(" + text);
        hasFault(e, 118, text.substring(1) + "x");
        isText(e, "(" + text.substring(2) + ")");
        StringBuilder nested = new StringBuilder();
        while (nested.length() < 98) {
            nested.append("((((((1))))))+");
        }
        isText(e, nested + "1", nested + "((((((1))))))");
        StringBuilder lines = new StringBuilder("1");
        while (lines.length() < 119) {
            lines.append(";1");
        }
        isText(e, lines.toString());
        isRead(e, 1, lines.toString(), "0?7" + lines.substring(3), nested + "1-" + nested.length() / 14);
        StringBuilder asked = new StringBuilder("0?7");
        while (asked.length() < 115) {
            asked.append(";0?7");
        }
        isRead(e, 0, asked.toString());
        isRead(e, 8, asked.substring(4) + ";8");
    }

    private static void wraps(Edges e) {
        e.says(Edges.TERMS, "Ints that wrap");
        String most = "(1024*1024*2048-1)";
        String least = "(1024*1024*2048)";
        isRead(e, 1, least + "<0", most + ">0", most + "+1=" + least, least + "-1=" + most, "-" + least + "=" + least);
        isRead(e, 1, "9999*9999*9999=-(1027*1000*1000+349*1000+969)");
        isRead(e, 98, most + "*-2+96", "-" + most + "-1-" + least + "+98", most + "+" + most + "+100");
        isRead(e, 1, least + "/-1=" + least, least + "%-1=0");
        isRead(e, 0, least, "-" + most, least + "*2");
        isRead(e, 99, most, least + "-1");
    }

    private static void divides(Edges e) {
        e.says(Edges.TERMS, "/ and % toward 0, by 0 they give 0");
        isRead(e, 7, "-7/2+10", "7/-2+10", "-(7/2)+10", "-7/-2+4");
        isRead(e, 9, "-7%2+10", "-7%-2+10", "7%2+8", "7%-2+8", "-9%4+10");
        isRead(e, 5, "7/0+5", "7%0+5", "0/0+5", "0%0+5", "-7/0+5", "-7%0+5", "r/(r-40)+5", "r%(l-3)+5", "r/h+5");
        isRead(e, 5, "1/2+5", "-1/2+5", "5%9", "0/7+5", "0%7+5");
    }

    private static void oneOrNothing(Edges e) {
        e.says(Edges.TERMS, "| & < = > ! give 1, 0; all is worked out.");
        isRead(e, 1, "7|0", "0|7", "7|7", "-1|0", "7&7", "-1&2", "!0", "!!7", "3<4", "4=4", "4>3", "-4<-3");
        isRead(e, 0, "0|0", "7&0", "0&7", "0&0", "!7", "!-1", "4<4", "4<3", "4=3", "4>4", "3>4", "-3<-4");
        isRead(e, 1, "1|7/0", "1|0&0", "!7=0", "5|3<2", "2+3>4&5", "-5+6=1", "!0*7>0");
        isRead(e, 0, "(1|0)&0", "0&7/0", "!(7=0)&0", "!1|0");
        isRead(e, 5, "(0|0)+5", "(7&0)+5", "(0&0)+5", "(4<4)+5", "(4=3)+5", "(4>4)+5", "!7+5", "5-(3>4)");
        isRead(e, 6, "(0|9)+5", "(7&8)+5", "(-3&-9)+5", "(3<4)+5", "(4=4)+5", "(4>3)+5", "!0+5", "5+(-4<-3)");
        isRead(e, 3, "(r>l)+(r=40)+(l<4)", "(7|0)*3", "(7&8)*3", "!0+2");
    }

    private static void whichLineCounts(Edges e) {
        e.says(Edges.TERMS, "The first LINE without a first E, or whose first E is not 0, counts; none: 0.");
        isRead(e, 33, "33", "33;44", "0?44;33", "1?33;44", "0?44;0?55;33;66", "0?44;-1?33", "9999?33");
        isRead(e, 33, "r-40?44;33", "33;1?44", "0?44;2?33;1?55");
        isRead(e, 0, "0?33", "0?33;0?44", "r=41?33;r=39?44", "0;33", "1?0;33");
    }

    private static void heldWithin(Edges e) {
        e.says(Edges.TERMS, "It gives how sorry he is READ (held within 0 .. 99).");
        isRead(e, 0, "0", "-1", "-9999", "0-r");
        isRead(e, 1, "1", "r-39");
        isRead(e, 98, "98");
        isRead(e, 99, "99", "100", "9999", "r*r");
        GloveRegret x = new GloveRegret();
        x.guest(1, 7);
        x.guest(1, 7);
        Check.law(x, "g*50+200");
        e.due("held within ahead of THE ORDER", x.first(0), 0);
        e.due("READ alike", x.upside(1), 1);
        Check.law(x, "-9+g");
        e.due("below 0, too", x.first(0), 0);
    }

    private static void withoutText(Edges e) {
        e.says(Edges.TERMS, "Without a text: r, and 2 times l, less 5 if h is 0.");
        int[][] told = {{0, 0, 1, 0}, {0, 0, 0, 0}, {4, 0, 0, 0}, {5, 0, 0, 0}, {6, 0, 0, 1}, {0, 9, 1, 18},
            {0, 9, 0, 13}, {81, 9, 1, 99}, {80, 9, 1, 98}, {82, 9, 1, 99}, {86, 9, 0, 99}, {85, 9, 0, 98},
            {99, 9, 1, 99}, {99, 9, 0, 99}, {99, 0, 0, 94}, {40, 3, 0, 41}};
        GloveRegret x = new GloveRegret();
        x.guest(1, 7);
        for (int[] one : told) {
            x.mend(0, 0, one[0]);
            x.mend(0, 2, one[1]);
            x.mend(0, 3, one[2]);
            e.due("r " + one[0] + ", l " + one[1] + ", h " + one[2], x.later(0, 0, 0), one[3]);
        }
        e.due("a text with a fault leaves it so", Check.law(x, "r+"), -102);
        e.due("READ", x.later(0, 0, 0), 41);
    }

    private static void names(Edges e) {
        e.says(Edges.TERMS, "n how many GUESTS are not GONE");
        isRead(e, 40, "r");
        isRead(e, 3, "l");
        isRead(e, 0, "h");
        isRead(e, 6, "m");
        isRead(e, 2, "n");
        isRead(e, 1, "g");
        GloveRegret x = new GloveRegret();
        for (int g = 0; g < 9; g++) {
            x.guest(1, 7);
        }
        Check.law(x, "h");
        e.due("right", x.later(0, 0, 0), 1);
        Check.law(x, "n");
        e.due("nine", x.later(0, 0, 0), 9);
        for (int g = 0; g < 9; g++) {
            x.mend(g, 5, 1);
        }
        e.due("none, READ of one who is GONE", x.later(0, 8, 0), 0);
        Check.law(x, "g");
        e.due("the last number", x.later(0, 8, 0), 8);
        x.mend(0, 8, 199);
        Check.law(x, "m-150");
        e.due("MINUTE 199", x.later(0, 0, 0), 49);
        e.due("199 stays", x.later(60, 0, 0), 49);
    }

    private static void tapeIsEmptyThen(Edges e) {
        e.says(8, "THE TAPE is empty then.");
        GloveRegret x = two();
        e.due("a law", Check.law(x, "l*5"), 1);
        e.due("behind a law", x.count(2), 0);
        e.due("a fault", Check.law(x, "l*5+"), -104);
        e.due("behind a fault", x.count(2), 0);
        e.due("an empty one is no TEXT", x.law(), -100);
        e.due("the law that was stays", x.later(0, 1, 0), 15);
        e.due("nothing of the tape is left", Check.law(x, "7"), 1);
        e.due("READ by 7", x.later(0, 1, 0), 7);
        e.due("a fault at once", Check.law(x, "?"), -100);
        e.due("and a law behind it", Check.law(x, "0?1;8"), 1);
        e.due("READ by 8", x.later(0, 1, 0), 8);
        e.due("a fault within a LINE", Check.law(x, "r?r?"), -103);
        e.due("the next TEXT may ask", Check.law(x, "r?6"), 1);
        e.due("READ by 6", x.later(0, 1, 0), 6);
        e.due("a fault within six", Check.law(x, "((((((x"), -106);
        e.due("the next TEXT has six", Check.law(x, "((((((4))))))"), 1);
        e.due("READ by 4", x.later(0, 1, 0), 4);
    }
}
