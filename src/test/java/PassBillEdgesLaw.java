/** The edges that the document names of THE TAPE, of THE LAW and of what a saying COUNTS: promises 6 to 8. */
public final class PassBillEdgesLaw {
    private static final Due due = Due.byDocument();
    private static final String NAMES = "kwaosg", DIGITS = "0123456789", OPENING = "(!-";
    private static final String COMPARING = "<=>", JOINING = "|&+-*/%";
    /** The least int, as a text can tell it: 2 by itself 31 times. */
    private static final String LEAST = "8192*8192*32";

    private static String times(String text, int n) {
        return text.repeat(n);
    }

    private static void tape() {
        due.promises(6, "A byte (0 .. 255) comes to THE TAPE: how many it has.");
        for (int letter : new int[] {-1, 0, 1, 127, 128, 255, 256, 257, -256, Due.LEAST_INT, Due.MOST_INT}) {
            PassBill x = new PassBill();
            boolean may = letter >= 0 && letter <= 255;
            due.is("feed(" + letter + ")", may ? 1 : Due.BAD, x.feed(letter));
            due.is("count(2)", may ? 1 : 0, x.count(2));
        }
        due.promises(6, "BAD, FULL (120).");
        PassBill x = new PassBill();
        for (int n = 1; n <= 120; n++) {
            due.is("the " + n + "-th feed(49)", n, x.feed(49));
        }
        due.is("the 121st", Due.FULL, x.feed(49));
        due.is("the 121st, no byte", Due.BAD, x.feed(256));
        due.is("the 121st, below 0", Due.BAD, x.feed(-1));
        due.is("count(2)", 120, x.count(2));
        due.promises(7, "THE TAPE is empty then.");
        due.is("law() of 120 digits", -104, x.law());
        due.is("count(2) behind a FAULT", 0, x.count(2));
        due.is("feed(49) behind a FAULT", 1, x.feed(49));
        due.is("law()", 1, x.law());
        due.is("count(2) behind a law", 0, x.count(2));
        due.is("law() of an empty TAPE", -100, x.law());
        due.is("feed(50) behind a law", 1, x.feed(50));
    }

    private static void is(String text, int want) {
        due.is("law() of " + text, want, Due.law(new PassBill(), text));
    }

    /** One byte in a place of a text, each of 256: which may stand there, and which leave it to end too early. */
    private static void eachByte(String ahead, String whole, String goingOn) {
        for (int letter = 0; letter <= 255; letter++) {
            int place = ahead.length();
            int want = whole.indexOf(letter) >= 0 ? 1 : -100 - (goingOn.indexOf(letter) >= 0 ? place + 1 : place);
            due.is("law() of " + ahead + " and byte " + letter, want, Due.law(new PassBill(), ahead + (char) letter));
        }
    }

    private static void faults() {
        due.says("FAULT: the place (from 0) of the first byte with which no TEXT goes on; the length, if it ends too early.");
        String operand = NAMES + DIGITS;
        eachByte("", operand, OPENING);
        eachByte("1", DIGITS, COMPARING + JOINING + "?;");
        eachByte("1234", "", COMPARING + JOINING + "?;");
        eachByte("k", "", COMPARING + JOINING + "?;");
        eachByte("1<k", "", JOINING + "?;");
        eachByte("1?k", "", COMPARING + JOINING + ";");
        eachByte("1?k<k", "", JOINING + ";");
        eachByte("(k", ")", COMPARING + JOINING);
        eachByte("(k<k", ")", JOINING);
        eachByte("(k)", "", COMPARING + JOINING + "?;");
        eachByte("!k", "", COMPARING + JOINING + "?;");
        for (String ahead : new String[] {"!", "-", "(-", "1+", "1-", "1*", "1/", "1%", "1|", "1&", "1<", "1=", "1>", "1?", "1;", "1?1;", "((((("}) {
            eachByte(ahead, ahead.indexOf('(') < 0 ? operand : "", ahead.indexOf('(') < 0 ? OPENING : OPENING + operand);
        }
        is("(((((", -105);
        is("1+2)+(", -103);
        is("(1+2", -104);
    }

    private static void lines() {
        due.says("THE LAW is a TEXT by THE TAPE (at most 120 bytes)");
        PassBill x = Due.with(51);
        String longest = times("0+", 59) + "17";
        due.is("law() of 120 bytes", 1, Due.law(x, longest));
        due.is("what 120 bytes count", 17, x.counts(0));
        due.is("law() of 121 bytes: the last is not on THE TAPE", 1, Due.law(x, times("0+", 59) + "13)"));
        due.is("what the first 120 bytes count", 13, x.counts(0));
        is(times("0+", 60), -220);
        is(times("0+", 59) + "1)", -219);
        is(times("0+", 59) + "1", 1);
        due.says("LINES, one or more, parted by ;");
        is("", -100);
        is(";", -100);
        is("1;", -102);
        is(";1", -100);
        is("1;;1", -102);
        is("1;1", 1);
        is(times("1;", 59) + "1", 1);
        is(times("1;", 60), -220);
        due.says("LINE: E, or E ? E (what counts if the first is not 0).");
        is("1?", -102);
        is("?1", -100);
        is("1?2", 1);
        is("1?2?3", -103);
        is("1??2", -102);
        is("(1?2)", -102);
        is("1?2;3?4?5", -107);
        is("1?(2?3)", -104);
    }

    private static void chains() {
        due.says("E = A { | A }. A = B { & B }. B = S, or S < S, S = S, S > S. S = P { + P, - P }. P = O { * O, / O, % O }.");
        for (char sign : JOINING.toCharArray()) {
            is("1", 1);
            is("1" + sign + "1", 1);
            is(times("1" + sign, 59) + "1", 1);
            is("1" + sign, -102);
            is("1" + sign + sign + "1", sign == '-' ? 1 : -102);
        }
        for (char sign : COMPARING.toCharArray()) {
            is("1" + sign + "1", 1);
            for (char other : COMPARING.toCharArray()) {
                is("1" + sign + "1" + other + "1", -103);
                is("1" + sign + other + "1", -102);
                is("(1" + sign + "1)" + other + "1", 1);
                is("1" + sign + "1|1" + other + "1", 1);
                is("1" + sign + "1&1" + other + "1", 1);
                is("1" + sign + "1?1" + other + "1;1" + sign + "1", 1);
                is("1" + sign + "1+1" + other + "1", -105);
            }
        }
        counts("2&2|0&0", 1);
        counts("0&1|1", 1);
        counts("1|1&0", 1);
        counts("(1|1)&0", 0);
        counts("3<2&1", 0);
        counts("1+1<3-1", 0);
        counts("2+2=4", 1);
        counts("2+3*4", 14);
        counts("20-4-3", 13);
        counts("16/4/2", 2);
        counts("17%10%4", 3);
        counts("9*4/3%7", 5);
        counts("20-9/2", 16);
        counts("-1+3", 2);
        counts("!1+3", 3);
        counts("!(1+3)", 0);
        counts("-2*-3", 6);
        counts(times("0|1&0<0+1*(", 6) + "1" + times(")", 6), 1);
        counts(times("3-(", 6) + "1" + times(")", 6), 1);
    }

    /** What the text counts for one of WISH 5, AGE 30, KIND 0; below -100: the FAULT. */
    private static void counts(String text, int want) {
        PassBill x = Due.with(51);
        int law = Due.law(x, text);
        due.is("counts(0) by " + text, want, law == 1 ? x.counts(0) : law);
    }

    private static void operands() {
        due.says("O = a number (1 to 4 digits), a NAME, ! O, - O, ( E ).");
        is("0", 1);
        is("0000", 1);
        is("9999", 1);
        is("00000", -104);
        is("99999", -104);
        is("1+99999", -106);
        is("()", -101);
        is("(", -101);
        is(")", -100);
        is("!", -101);
        is("-", -101);
        is("k(", -101);
        is("kw", -101);
        counts("9999=10000/1", -109);
        counts("9999-9980", 19);
        counts("0019", 19);
        counts("0009", 9);
        counts("1000-999", 1);
        counts("((((((7))))))", 7);
        due.says("No blanks.");
        for (char blank : new char[] {' ', '\t', '\n', '\r', 0, 160}) {
            is(blank + "1", -100);
            is("1" + blank, -101);
            is("1" + blank + "+1", -101);
            is("1+" + blank + "1", -102);
        }
    }

    private static void open() {
        due.says("At most 6 of ( ! - ahead of an O are open at once.");
        for (int mix = 0; mix < 3 * 3 * 3 * 3 * 3 * 3 * 3; mix++) {
            StringBuilder text = new StringBuilder();
            StringBuilder closing = new StringBuilder();
            for (int k = 0, left = mix; k < 7; k++, left /= 3) {
                text.append(OPENING.charAt(left % 3));
                closing.append(left % 3 == 0 && k < 6 ? ")" : "");
            }
            is(text + "1" + closing, -106);
            is(text.substring(0, 6) + "1" + closing, 1);
            is("w-" + text + "1", -108);
            is("w-" + text.substring(0, 6) + "1" + closing + "-" + text.substring(0, 6) + "1" + closing, 1);
        }
        is("((((((1))))))+((((((1))))))", 1);
        is("((((((1))))))+(((((((1)))))))", -120);
        is("!!!!!!1?!!!!!!1;!!!!!!1", 1);
        is("!!!!!!1?!!!!!!!1", -114);
        is("!!!!!!1;!!!!!!!1", -114);
        is("((((((1+1))))))", 1);
        is("((((((1+-1))))))", -108);
        is("(((((1+-1)))))", 1);
        is("(((((1+-!1)))))", -108);
        is("(((((-1+-1+-1)))))", 1);
        is("(((((1)))))+(((((-1)))))", 1);
    }

    private static void ints() {
        due.says("Ints that wrap;");
        counts(LEAST + "<0", 1);
        counts(LEAST + "-1>0", 1);
        counts(LEAST + "+" + LEAST, 0);
        counts("-(" + LEAST + ")<0", 1);
        counts("-(" + LEAST + ")=" + LEAST, 1);
        counts(LEAST + "-1+1<0", 1);
        counts("8192*8*8192*8+7", 7);
        counts(LEAST + "*3=" + LEAST, 1);
        counts(LEAST + "/-1=" + LEAST, 1);
        counts(LEAST + "%-1+5", 5);
        due.says("/ and % toward 0, by 0 they give 0;");
        counts("-7/2+9", 6);
        counts("7/-2+9", 6);
        counts("-7/-2", 3);
        counts("-7%2+9", 8);
        counts("7%-2", 1);
        counts("-7%-2+9", 8);
        counts("-1/2", 0);
        counts("7/0+3", 3);
        counts("7%0+3", 3);
        counts("0/0+3", 3);
        counts("0%0+3", 3);
        counts("-7/0+3", 3);
        counts(LEAST + "/0+3", 3);
        counts(LEAST + "%0+3", 3);
        counts("7/!w+3", 3);
        due.says("| & < = > ! give 1, 0; all is worked out.");
        counts("7|9", 1);
        counts("-7|0", 1);
        counts("0|0", 0);
        counts("7&9", 1);
        counts("-7&-9", 1);
        counts("7&0", 0);
        counts("0&7", 0);
        counts("!7", 0);
        counts("!-7", 0);
        counts("!0", 1);
        counts("!!7", 1);
        counts("7<8", 1);
        counts("7<7", 0);
        counts("8<7", 0);
        counts("8>7", 1);
        counts("7>7", 0);
        counts("7>8", 0);
        counts("7=7", 1);
        counts("7=8", 0);
        counts("-1<0", 1);
        counts("0>-1", 1);
        counts("1|1/0", 1);
        counts("0&1%0", 0);
        due.says("The first LINE without a first E, or whose first E is not 0, counts; none: 0.");
        counts("0?9", 0);
        counts("1?9", 9);
        counts("-1?9", 9);
        counts("0?9;0?8", 0);
        counts("0?9;1?8;7", 8);
        counts("0?9;0?8;7", 7);
        counts("7;1?9", 7);
        counts("0;9", 0);
        counts("1?0;9", 0);
        counts("7;8;9", 7);
        counts(LEAST + "?9;8", 9);
        counts(times("0?9;", 29) + "1?13", 13);
        counts(times("0?9;", 29) + "0?13", 0);
        counts("0?9;0?9;k=0?(w+a)/5", 7);
        PassBill x = Due.with(51);
        for (String longer : new String[] {"1;2;3;4;5;6;7", "7+7;7", "1?2;3?4;5", times("9;", 59) + "9"}) {
            Due.law(x, longer);
            due.is("law() of 0?9 behind " + longer, 1, Due.law(x, "0?9"));
            due.is("none, though a longer law was ahead of it", 0, x.counts(0));
            Due.law(x, "k;" + longer + "+");
            due.is("none, though a longer text failed behind it", 0, x.counts(0));
        }
    }

    private static void held() {
        due.says("It gives how much his saying COUNTS (held within 0 .. 20).");
        counts("-1", 0);
        counts("0", 0);
        counts("1", 1);
        counts("19", 19);
        counts("20", 20);
        counts("21", 20);
        counts("9999", 20);
        counts("-9999", 0);
        counts(LEAST, 0);
        counts(LEAST + "-1", 20);
        due.says("Without a text: 5, less k, and w by 3 (cut).");
        for (int wish = 0; wish <= 9; wish++) {
            for (int kind = 0; kind <= 4; kind++) {
                PassBill x = Due.with(10 * wish);
                x.mend(0, 4, kind);
                due.is("counts(0) of WISH " + wish + ", KIND " + kind, 5 - kind + wish / 3, x.counts(0));
            }
        }
        due.promises(7, "THE TAPE becomes THE LAW: 1; -100 less its FAULT;");
        PassBill x = Due.with(51);
        due.is("law() of none", -100, x.law());
        due.is("counts(0) behind the first FAULT", 6, x.counts(0));
        due.is("law() of 1)", -101, Due.law(x, "1)"));
        due.is("counts(0) behind the second FAULT", 6, x.counts(0));
        due.is("law() of 9", 1, Due.law(x, "9"));
        due.is("counts(0) by 9", 9, x.counts(0));
        due.is("law() of 8;", -102, Due.law(x, "8;"));
        due.is("counts(0) by 9 still", 9, x.counts(0));
        due.is("law() of none", -100, x.law());
        due.is("counts(0) by 9 still", 9, x.counts(0));
        due.is("law() of 7", 1, Due.law(x, "7"));
        due.is("counts(0) by 7", 7, x.counts(0));
    }

    private static void names() {
        due.says("NAMES: k KIND, w WISH, a AGE, o how many others of PEOPLE say it (HABIT 1, 2), s SNOW of the YEAR, g how many of PEOPLE go (HABIT 2, 3).");
        for (int kind = 0; kind <= 4; kind++) {
            named("k", 4, kind, kind);
        }
        for (int wish = 0; wish <= 9; wish++) {
            named("w", 0, wish, wish);
        }
        named("a", 2, 0, 0);
        named("a", 2, 20, 20);
        named("a-80", 2, 99, 19);
        named("s", 7, 0, 0);
        named("s", 7, 20, 20);
        named("s-80", 7, 99, 19);
        PassBill other = Due.with(51);
        other.mend(0, 8, 199);
        other.mend(7, 7, 11);
        Due.law(other, "s");
        due.is("s of YEAR 199", 11, other.counts(0));
        due.says("o is without himself, g with himself.");
        for (int habit = 0; habit <= 3; habit++) {
            for (int others = 0; others <= 3; others++) {
                PassBill x = Due.crowd(8, 50 + others);
                x.takes(3, habit);
                Due.law(x, "o");
                due.is("o of " + habit + " among " + others, others == 1 || others == 2 ? 7 : 0, x.counts(3));
                Due.law(x, "g");
                due.is("g of " + habit + " among " + others, (others >= 2 ? 7 : 0) + (habit >= 2 ? 1 : 0), x.counts(3));
            }
            PassBill alone = Due.with(50 + habit);
            Due.law(alone, "o");
            due.is("o of one alone by " + habit, 0, alone.counts(0));
            Due.law(alone, "g");
            due.is("g of one alone by " + habit, habit >= 2 ? 1 : 0, alone.counts(0));
        }
        due.promises(8, "What the saying of one COUNTS. BAD.");
        for (int people : new int[] {0, 1, 8}) {
            PassBill x = Due.crowd(people, 50);
            for (int one : new int[] {-1, 0, people - 1, people, 8, Due.LEAST_INT, Due.MOST_INT}) {
                due.is("counts(" + one + ") of " + people, one >= 0 && one < people ? 6 : Due.BAD, x.counts(one));
            }
        }
        due.says("what the saying of one COUNTS (whatever HABIT)");
        for (int habit = 0; habit <= 3; habit++) {
            for (int heard = 0; heard <= 1; heard++) {
                PassBill x = Due.with(50 + habit);
                x.mend(0, 5, heard);
                due.is("counts(0) by HABIT " + habit + ", HEARD " + heard, 6, x.counts(0));
            }
        }
    }

    private static void named(String text, int what, int v, int want) {
        PassBill x = Due.with(51);
        x.mend(0, what, v);
        Due.law(x, text);
        due.is("counts(0) by " + text + " of " + v, want, x.counts(0));
    }

    public static void main(String[] args) {
        tape();
        faults();
        lines();
        chains();
        operands();
        open();
        ints();
        held();
        names();
        due.end();
    }
}
