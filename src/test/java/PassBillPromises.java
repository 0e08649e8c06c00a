/** Each promise of the document by itself: ordinary inputs, the edges that it names, and wrong inputs. */
public final class PassBillPromises {
    private static final int LEAST_INT = Integer.MIN_VALUE, MOST_INT = Integer.MAX_VALUE;
    private static int wrong = 0;
    private static int asked = 0;

    private static void due(int promise, String call, long want, long got) {
        asked++;
        if (got != want) {
            wrong++;
            System.out.println("promise " + promise + ": " + call + " answered " + got + ", due is " + want);
        }
    }

    private static PassBill with(int... whs) {
        PassBill x = new PassBill();
        for (int wh : whs) {
            x.person(wh);
        }
        return x;
    }

    private static int lawOf(PassBill x, String text) {
        for (int i = 0; i < text.length(); i++) {
            x.feed(text.charAt(i));
        }
        return x.law();
    }

    private static void fill(PassBill x, int shelf, int sort, long... elements) {
        x.row(shelf, sort, elements.length);
        for (int i = 0; i < elements.length; i++) {
            x.put(shelf, i, elements[i]);
        }
    }

    private static void newObject() {
        PassBill x = new PassBill();
        for (int what = 0; what <= 5; what++) {
            due(1, "count(" + what + ")", 0, x.count(what));
        }
        for (int year = 0; year < 8; year++) {
            due(1, "of(year, 7)", 20, x.of(year, 7));
        }
        due(1, "of(0, 8)", 0, x.of(0, 8));
        due(1, "of(0, 9)", 10, x.of(0, 9));
        due(1, "of(0, 10)", 10, x.of(0, 10));
        for (int what = 0; what <= 5; what++) {
            due(1, "led(" + what + ")", 0, x.led(what));
            due(1, "taken(shelf, 0)", -11, x.taken(what, 0));
        }
        due(1, "back()", -5, x.back());
    }

    private static void person() {
        PassBill x = new PassBill();
        for (int wrongOne : new int[] {-1, -10, 4, 9, 14, 99, 100, 103, LEAST_INT, MOST_INT}) {
            due(2, "person(" + wrongOne + ")", -1, x.person(wrongOne));
        }
        due(2, "person(93)", 0, x.person(93));
        due(2, "person(0)", 1, x.person(0));
        int[] want = {9, 100, 30, 3, 0, 1, 10};
        for (int what = 0; what < 7; what++) {
            due(2, "of(0, " + what + ")", want[what], x.of(0, what));
        }
        for (int i = 2; i < 8; i++) {
            due(2, "person(52)", i, x.person(52));
        }
        due(2, "person(52) of nine", -3, x.person(52));
        due(2, "person(54) of nine", -1, x.person(54));
        due(2, "count(0)", 8, x.count(0));
        due(2, "undo()", -5, x.undo());
    }

    private static void people() {
        PassBill x = new PassBill();
        due(3, "nothing there", 0, x.people(0, 0, 8));
        due(3, "nothing there, place below 0", 0, x.people(0, -1, 1));
        due(3, "nothing there, place far below 0", 0, x.people(5, LEAST_INT, 8));
        due(3, "nothing there, n 0 at a place below 0", -1, x.people(0, -1, 0));
        due(3, "no shelf", -1, x.people(-1, 0, 1));
        due(3, "no shelf", -1, x.people(6, 0, 1));
        due(3, "n 0", -1, x.people(0, 0, 0));
        due(3, "n 9", -1, x.people(0, 0, 9));
        fill(x, 0, 0, 5, 40, 1, 9, 99, 3, 0, 0, 0, 7, 7);
        due(3, "beyond the row", 0, x.people(0, 11, 1));
        due(3, "far beyond the row", 0, x.people(0, MOST_INT, 8));
        due(3, "ahead of the row", 0, x.people(0, -1, 8));
        due(3, "a three ahead of the row", 0, x.people(0, -3, 8));
        due(3, "far ahead of the row", 0, x.people(0, LEAST_INT, 8));
        due(3, "nobody came from outside the row", 0, x.count(0));
        due(3, "all of the row", 3, x.people(0, 0, 8));
        due(3, "of(1, 0)", 9, x.of(1, 0));
        due(3, "of(1, 2)", 99, x.of(1, 2));
        due(3, "of(1, 3)", 3, x.of(1, 3));
        due(3, "of(1, 1)", 100, x.of(1, 1));
        due(3, "of(2, 5)", 1, x.of(2, 5));
        due(3, "the last whole three", 1, x.people(0, 6, 1));
        due(3, "n of more", 2, x.people(0, 0, 2));
        due(3, "until FULL", 2, x.people(0, 0, 3));
        due(3, "FULL", 0, x.people(0, 0, 1));
        due(3, "count(0)", 8, x.count(0));
        long[][] no = {{10, 0, 0}, {-1, 0, 0}, {0, 100, 0}, {0, -1, 0}, {0, 0, 4}, {0, 0, -1}, {5, 30}, {}};
        for (long[] three : no) {
            PassBill y = new PassBill();
            fill(y, 5, 0, three);
            due(3, "not as it may be", 0, y.people(5, 0, 1));
            due(3, "nobody came", 0, y.count(0));
        }
        x.body(0);
        x.keep(1, 0);
        due(3, "a BODY", -12, x.people(1, 0, 1));
        x.row(1, 4, 3);
        due(3, "booleans", -12, x.people(1, 0, 1));
        due(3, "booleans, place below 0", -12, x.people(1, -1, 1));
        due(3, "BAD ahead of -12", -1, x.people(1, -1, 9));
    }

    private static void mendAndOf() {
        PassBill x = with(51, 62);
        int[] first = {6, 100, 30, 2, 0, 1, 10, 20, 0, 10, 10};
        int[] least = {0, 0, 0, 0, 0, 0, 0, 0, 0, 1, 0};
        int[] most = {9, 9999, 99, 3, 4, 1, 99, 99, 199, 99, 99};
        for (int what = 0; what <= 10; what++) {
            int number = what <= 7 ? 1 : 0;
            String call = "mend of " + what;
            due(4, call + " below", -1, x.mend(number, what, least[what] - 1));
            due(4, call + " above", -1, x.mend(number, what, most[what] + 1));
            due(5, "of before", first[what], x.of(number, what));
            due(4, call + " least", first[what], x.mend(number, what, least[what]));
            due(5, "of least", least[what], x.of(number, what));
            due(4, call + " most", least[what], x.mend(number, what, most[what]));
            due(5, "of most", most[what], x.of(number, what));
            due(4, call + " extreme", -1, x.mend(number, what, LEAST_INT));
            due(4, call + " extreme", -1, x.mend(number, what, MOST_INT));
            int beyond = what <= 6 ? 2 : what == 7 ? 8 : 1;
            due(4, call + " no such number", -1, x.mend(beyond, what, least[what]));
            due(4, call + " no such number", -1, x.mend(-1, what, least[what]));
            due(5, "of no such number", -1, x.of(beyond, what));
            due(5, "of no such number", -1, x.of(-1, what));
            due(5, "of no such number", -1, x.of(MOST_INT, what));
        }
        due(4, "mend(0, 11, 1)", -1, x.mend(0, 11, 1));
        due(4, "mend(0, -1, 1)", -1, x.mend(0, -1, 1));
        due(5, "of(0, 11)", -1, x.of(0, 11));
        due(5, "of(0, -1)", -1, x.of(0, -1));
        due(5, "of the other one", 5, x.of(0, 0));
        due(5, "of(2, 7)", 20, x.of(2, 7));
        due(5, "of(7, 7)", 20, x.of(7, 7));
    }

    private static void feed() {
        PassBill x = new PassBill();
        due(6, "feed(-1)", -1, x.feed(-1));
        due(6, "feed(256)", -1, x.feed(256));
        for (int i = 1; i <= 120; i++) {
            due(6, "feed(255)", i, x.feed(i == 1 ? 0 : 255));
        }
        due(6, "feed(1)", -3, x.feed(1));
        due(6, "feed(256)", -1, x.feed(256));
        due(6, "count(2)", 120, x.count(2));
    }

    private static void fault(String text, int place) {
        PassBill x = with(51);
        due(7, "law() of " + text, -100 - place, lawOf(x, text));
        due(7, "count(2) behind " + text, 0, x.count(2));
        due(7, "counts(0) behind " + text, 6, x.counts(0));
    }

    private static void lawFaults() {
        String[] wholes = {"1", "k", "1?2", "1;2", "1?2;3?4;5", "1234", "0000", "(1)", "!1", "-1", "1--1", "1-!-1", "1<2|3>4&5=6",
            "((((((1))))))", "!!!!!!1", "------1", "(!-(!-1))", "(((((1)+(1)))))", "(1<2)=3", "1-------1", "!1+!!2+!!!!!!3", "k+w*a/o%s-g"};
        for (String text : wholes) {
            due(7, "law() of " + text, 1, lawOf(with(51), text));
        }
        fault("", 0);
        fault(";", 0);
        fault("?1", 0);
        fault("1;", 2);
        fault("1?", 2);
        fault("1?2?3", 3);
        fault("1?2;", 4);
        fault("1?;", 2);
        fault("12345", 4);
        fault("1+", 2);
        fault("1+*2", 2);
        fault("1<2<3", 3);
        fault("1<2=3", 3);
        fault("(1", 2);
        fault("(1?2)", 2);
        fault("(1;2)", 2);
        fault("1)", 1);
        fault("()", 1);
        fault("1 ", 1);
        fault(" 1", 0);
        fault("kk", 1);
        fault("k1", 1);
        fault("1k", 1);
        fault("1(", 1);
        fault("1!2", 1);
        fault("x", 0);
        fault("K", 0);
        fault("(((((((1)))))))", 6);
        fault("!!!!!!!1", 6);
        fault("-------1", 6);
        fault("1--------1", 8);
        fault("((((((!1))))))", 6);
        fault("((((((1+-1))))))", 8);
        fault("((((((1", 7);
        fault("!", 1);
        fault("1&|2", 2);
        fault("1||2", 2);
        fault("\u00ff", 0);
        fault("1\u0000", 1);
    }

    private static void count(String text, int want) {
        PassBill x = with(72, 51, 23, 40);
        x.mend(1, 4, 3);
        x.mend(1, 2, 41);
        x.mend(0, 7, 17);
        due(7, "law() of " + text, 1, lawOf(x, text));
        due(8, "counts(1) by " + text, want, x.counts(1));
    }

    private static void counts() {
        count("k", 3);
        count("w", 5);
        count("a/10", 4);
        count("a", 20);
        count("o", 1);
        count("s", 17);
        count("g", 2);
        count("0-1", 0);
        count("21", 20);
        count("20", 20);
        count("2+3*4", 14);
        count("(2+3)*4", 20);
        count("10-3-2", 5);
        count("20/3/2", 3);
        count("17%7*2", 6);
        count("7/0", 0);
        count("7%0+2", 2);
        count("-7/2+9", 6);
        count("-7%4+9", 6);
        count("--5", 5);
        count("!5", 0);
        count("!0", 1);
        count("!-0+1", 2);
        count("-!0+9", 8);
        count("5|0", 1);
        count("0|0", 0);
        count("5&2", 1);
        count("5&0", 0);
        count("1|0&0", 1);
        count("(1|0)&0", 0);
        count("1<2", 1);
        count("2<1", 0);
        count("2>1", 1);
        count("1>1", 0);
        count("1=1", 1);
        count("1=2", 0);
        count("2&2=1", 0);
        count("1+1=2", 1);
        count("0?5", 0);
        count("1?5", 5);
        count("-1?5", 5);
        count("0?5;6", 6);
        count("0?5;0?6;k=3?7;8", 7);
        count("4;5", 4);
        count("0;5", 0);
        count("9999*9999*100/9999/9999", 14);
        count("9999*9999*22<0", 1);
        count("9999*9999*9999*9999*0-1", 0);
        count("k?w", 5);
        PassBill x = with(72, 51, 23, 40);
        lawOf(x, "o*5+g");
        due(8, "o without himself, g with himself", 7, x.counts(0));
        due(8, "o of one who is silent", 12, x.counts(3));
        due(8, "o of one who goes by night", 12, x.counts(2));
        due(8, "counts(4)", -1, x.counts(4));
        due(8, "counts(-1)", -1, x.counts(-1));
        due(7, "a faulty text", -101, lawOf(x, "1)"));
        due(8, "the law stays behind a fault", 7, x.counts(0));
        due(7, "a second law", 1, lawOf(x, "1"));
        due(8, "the second law", 1, x.counts(0));
        x.mend(0, 8, 11);
        x.mend(3, 7, 13);
        lawOf(x, "s");
        due(8, "SNOW of YEAR 11", 13, x.counts(0));
        PassBill y = with(90);
        int[] byKind = {8, 7, 6, 5, 4};
        for (int kind = 0; kind < 5; kind++) {
            y.mend(0, 4, kind);
            due(8, "without a text", byKind[kind], y.counts(0));
        }
    }

    private static PassBill three() {
        PassBill x = with(51, 31, 92, 73, 11);
        x.mend(1, 4, 2);
        x.mend(4, 5, 0);
        x.mend(0, 7, 33);
        x.mend(0, 9, 7);
        return x;
    }

    private static void now() {
        PassBill x = three();
        due(9, "bill(0)", 231, x.bill(0));
        due(9, "bill(1)", 1, x.bill(1));
        due(9, "bill(2)", -1, x.bill(2));
        due(9, "bill(-1)", -1, x.bill(-1));
        int[] shares = {138, 92, 0, 0, 0};
        int[] worths = {10 - 138, 10 - 92, 90 - 16 + 10, 70 - 16, 10};
        for (int one = 0; one < 5; one++) {
            due(10, "share(" + one + ")", shares[one], x.share(one));
            due(11, "worth(" + one + ")", worths[one], x.worth(one));
        }
        due(10, "share(5)", -1, x.share(5));
        due(10, "share(-1)", -1, x.share(-1));
        due(11, "worth(5)", -2000000000, x.worth(5));
        due(11, "worth(-1)", -2000000000, x.worth(-1));
        due(12, "best(0, 0)", 2, x.best(0, 0));
        due(12, "best(0, 1)", 50 - 16 + 10, x.best(0, 1));
        due(12, "best(4, 0): not heard", 1, x.best(4, 0));
        due(12, "best(4, 1): not heard", 10, x.best(4, 1));
        due(12, "best(0, 2)", -2000000000, x.best(0, 2));
        due(12, "best(0, -1)", -2000000000, x.best(0, -1));
        due(12, "best(5, 0)", -2000000000, x.best(5, 0));
        due(12, "best(-1, 1)", -2000000000, x.best(-1, 1));
        due(44, "count(1)", 2, x.count(1));
        x.mend(0, 5, 0);
        x.mend(1, 5, 0);
        due(9, "bill(1): none is ASSESSED", 231, x.bill(1));
        due(10, "share(0): none is ASSESSED", 0, x.share(0));
        x.mend(0, 10, 0);
        due(12, "best(4, 0): of like ones the least", 0, x.best(4, 0));
        PassBill y = with(50, 51);
        lawOf(y, "o");
        due(12, "best(0, 1): nobody else would count", 50, y.best(0, 1));
        due(10, "share(1)", 0, y.share(1));
        y.takes(0, 1);
        due(10, "share(1) as the other one says it", 100, y.share(1));
    }

    private static void rests() {
        due(13, "atRest() of nobody", 1, new PassBill().atRest());
        due(14, "rest(-1) of nobody", 1, new PassBill().rest(-1));
        due(14, "rest(0) of nobody", -1, new PassBill().rest(0));
        PassBill x = with(90);
        due(13, "atRest()", 0, x.atRest());
        due(14, "rest(-1)", 1, x.rest(-1));
        due(14, "rest(0)", 2, x.rest(0));
        due(14, "rest(1)", -1, x.rest(1));
        due(14, "rest(-2)", -1, x.rest(-2));
        x.takes(0, 2);
        due(13, "atRest()", 1, x.atRest());
        PassBill z = with(0, 0);
        z.mend(0, 7, 40);
        lawOf(z, "1-o");
        due(14, "rest(-1): both say it and nothing counts, or neither", 2, z.rest(-1));
        due(14, "rest(0)", 0, z.rest(0));
        due(14, "rest(1)", 0, z.rest(1));
        PassBill never = with(0, 0);
        never.mend(0, 7, 99);
        never.mend(0, 10, 9);
        never.mend(1, 4, 1);
        lawOf(never, "k?o;!o");
        due(14, "rest(-1): one flees, one follows", 0, never.rest(-1));
        due(14, "rest(0): NOT", -2, never.rest(0));
        due(14, "rest(1): NOT", -2, never.rest(1));
        due(14, "rest(2): BAD", -1, never.rest(2));
        due(13, "atRest()", 0, never.atRest());
        PassBill first = with(0, 0);
        first.mend(0, 7, 0);
        first.mend(0, 10, 0);
        due(14, "all rows rest", 16, first.rest(-1));
        PassBill order = with(0, 0);
        order.mend(0, 7, 99);
        order.mend(0, 10, 9);
        lawOf(order, "o");
        due(14, "either says it alone", 2, order.rest(-1));
        due(14, "the first by HABIT of 0", 0, order.rest(0));
        due(14, "the first by HABIT of 0", 1, order.rest(1));
        PassBill five = with(0, 0, 0, 0, 0);
        due(14, "rest(-1) of five", -5, five.rest(-1));
        due(14, "rest(4) of five", -5, five.rest(4));
        due(14, "rest(5) of five", -1, five.rest(5));
    }

    private static void rates() {
        due(15, "freeRate() of nobody", 1, new PassBill().freeRate());
        PassBill x = with(1);
        due(15, "freeRate(): 20 by 1 is above 10", 1, x.freeRate());
        x.mend(0, 7, 99);
        due(15, "freeRate(): 99 is above 49", 1, x.freeRate());
        x.person(1);
        x.person(1);
        x.person(1);
        due(15, "freeRate(): a quarter of 99 by 2", 2, x.freeRate());
        x.mend(3, 4, 4);
        due(15, "freeRate(): a sixteenth", 8, x.freeRate());
        x.mend(3, 5, 0);
        due(15, "freeRate(): he is not HEARD", 2, x.freeRate());
        due(15, "RATE stays", 10, x.of(0, 9));
        x.mend(3, 5, 1);
        lawOf(x, "!k");
        due(15, "freeRate(): NOT, one counts nothing", -2, x.freeRate());
        x.mend(3, 0, 5);
        due(15, "freeRate(): he would go for nothing", 2, x.freeRate());
        PassBill y = with(1, 61, 61, 61, 61, 61, 61, 61);
        y.mend(0, 7, 2);
        lawOf(y, "w?20;1");
        due(15, "freeRate(): 1 of 141 parts of 2 by 71", 71, y.freeRate());
        y.mend(0, 7, 3);
        due(15, "freeRate(): 1 of 141 parts of 3 by 47", 47, y.freeRate());
    }

    private static void pools() {
        PassBill x = three();
        due(16, "pool(3, 0)", 138 - 115, x.pool(3, 0));
        due(16, "pool(3, 1)", 92 - 115, x.pool(3, 1));
        due(16, "pool(7, 0): up to a whole one", 138 - 77, x.pool(7, 0));
        due(16, "pool(31, 4)", -46, x.pool(31, 4));
        due(16, "pool(4, 2)", 0, x.pool(4, 2));
        due(16, "pool(2, 0)", -2000000000, x.pool(2, 0));
        due(16, "pool(0, 0)", -2000000000, x.pool(0, 0));
        due(16, "pool(33, 0)", -2000000000, x.pool(33, 0));
        due(16, "pool(-1, 0)", -2000000000, x.pool(-1, 0));
        due(16, "pool(1, 5)", -2000000000, x.pool(1, 5));
        due(16, "pool(1, -1)", -2000000000, x.pool(1, -1));
        due(16, "pool(31, 32)", -2000000000, x.pool(31, 32));
        due(17, "spared()", 1, x.spared());
        due(17, "spared() of nobody", 0, new PassBill().spared());
        PassBill y = with(51, 51, 51);
        due(17, "spared(): all alike, and a cut", 0, y.spared());
        y.mend(1, 4, 1);
        due(17, "spared(): two pay less", 5, y.spared());
        y.mend(0, 4, 1);
        y.mend(2, 4, 4);
        due(17, "spared()", 3, y.spared());
        lawOf(y, "0");
        due(17, "spared(): nobody by more than 0", 0, y.spared());
        lawOf(y, "k=1");
        due(17, "spared(): who counts nothing is not of the pool", 0, y.spared());
    }

    private static void laterYears() {
        PassBill x = with(1, 92);
        x.mend(1, 7, 40);
        due(18, "later(0, 0, 0)", 100, x.later(0, 0, 0));
        due(18, "later(1, 0, 0)", 10, x.later(1, 0, 0));
        due(18, "later(1, 1, 0)", 100, x.later(1, 1, 0));
        due(18, "later(2, 1, 0)", 90, x.later(2, 1, 0));
        due(18, "later(2, 1, 1)", 32, x.later(2, 1, 1));
        due(18, "later(2, 0, 2)", 600, x.later(2, 0, 2));
        due(18, "later(2, 0, 3)", 100 + 390, x.later(2, 0, 3));
        due(18, "later(0, 0, 4)", 200, x.later(0, 0, 4));
        due(18, "later(1, 0, 4)", 400, x.later(1, 0, 4));
        due(18, "later(60, 0, 1)", 90, x.later(60, 0, 1));
        for (int what = 0; what <= 4; what++) {
            due(18, "n -1", -1, x.later(-1, 0, what));
            due(18, "n 61", -1, x.later(61, 0, what));
            due(18, "one 2", -1, x.later(0, 2, what));
            due(18, "one -1", -1, x.later(0, -1, what));
        }
        due(18, "later(0, 1, 2)", -1, x.later(0, 1, 2));
        due(18, "what 5", -1, x.later(0, 0, 5));
        due(18, "what -1", -1, x.later(0, 0, -1));
        due(18, "nothing is gone through in deed", 100, x.of(0, 1));
        x.mend(0, 2, 98);
        x.mend(0, 8, 199);
        x.mend(7, 7, 3);
        x.mend(0, 1, 9990);
        x.takes(0, 0);
        due(18, "AGE 99 stays", 99, x.later(9, 0, 1));
        due(18, "YEAR 199 stays", 30, x.later(9, 0, 4));
        due(18, "PURSE 9999 at most", 9999, x.later(1, 0, 0));
        PassBill y = with(51);
        lawOf(y, "a<31");
        due(18, "SHARES by AGE as the year begins", 200, y.later(9, 0, 2));
    }

    private static void brokeAndThrift() {
        PassBill x = with(3, 0);
        due(19, "broke(0)", -2, x.broke(0));
        x.mend(0, 6, 0);
        due(19, "broke(0): 10 a year", 10, x.broke(0));
        x.mend(0, 1, 600);
        due(19, "broke(0) behind 60", 60, x.broke(0));
        x.mend(0, 1, 601);
        due(19, "broke(0) behind 61", -2, x.broke(0));
        x.mend(0, 1, 0);
        due(19, "broke(0) now", 0, x.broke(0));
        due(19, "broke(2)", -1, x.broke(2));
        due(19, "broke(-1)", -1, x.broke(-1));
        PassBill y = with(53);
        due(20, "thrift(0, 0, 0)", 0, y.thrift(0, 0, 0));
        due(20, "thrift(0, 0, 1)", 100, y.thrift(0, 0, 1));
        due(20, "thrift(0, 40, 1)", 500, y.thrift(0, 40, 1));
        due(20, "thrift(0, 41, 1)", -1, y.thrift(0, 41, 1));
        due(20, "thrift(0, -1, 1)", -1, y.thrift(0, -1, 1));
        due(20, "thrift(0, 1, 2)", -1, y.thrift(0, 1, 2));
        due(20, "thrift(0, 1, -1)", -1, y.thrift(0, 1, -1));
        due(20, "thrift(1, 1, 0)", -1, y.thrift(1, 1, 0));
        due(20, "thrift(-1, 1, 0)", -1, y.thrift(-1, 1, 0));
        due(20, "HABIT stays", 3, y.of(0, 3));
    }

    private static void billed() {
        PassBill x = three();
        fill(x, 0, 1, 0, 138, 1, 92, 2, 0, 0, 138);
        due(21, "judge: all is so", -2, x.judge(0));
        due(22, "HABITS of 0", 2, x.fits(0, 0, 0));
        due(22, "HABITS of 2", 13, x.fits(0, 2, 0));
        due(22, "HABITS of 4, not heard", 15, x.fits(0, 4, 0));
        due(22, "KINDS of 0", 1, x.fits(0, 0, 1));
        due(22, "KINDS of 2", 31, x.fits(0, 2, 1));
        due(22, "SNOWS", 1, x.fits(0, 0, 2));
        due(22, "the least SNOW", 33, x.fits(0, 0, 3));
        due(22, "EARS", 4, x.fits(0, 0, 4));
        due(22, "the least EARS", 3, x.fits(0, 0, 5));
        x.put(0, 5, 1);
        due(21, "judge: the third", 2, x.judge(0));
        due(22, "no HABITS", 0, x.fits(0, 0, 0));
        due(22, "no SNOW", 0, x.fits(0, 0, 2));
        due(22, "no least SNOW", -2, x.fits(0, 0, 3));
        due(22, "no EARS", 0, x.fits(0, 0, 4));
        due(22, "no least EARS", -2, x.fits(0, 0, 5));
        x.put(0, 4, 5);
        due(21, "judge: it ends with one who is not there", -2, x.judge(0));
        x.put(0, 4, -1);
        due(21, "judge: it ends with one below 0", -2, x.judge(0));
        x.put(0, 4, 2);
        x.put(0, 5, -1);
        due(21, "judge: it ends with a SHARE below 0", -2, x.judge(0));
        x.put(0, 5, 65536);
        x.put(0, 7, 137);
        due(21, "judge: one told twice", 3, x.judge(0));
        fill(x, 1, 1, 0, 138, 1);
        due(21, "judge: half a two is none", -2, x.judge(1));
        x.row(1, 1, 0);
        due(21, "judge: an empty ROW", -2, x.judge(1));
        due(22, "HABITS by an empty ROW", 15, x.fits(1, 0, 0));
        due(22, "SNOWS by an empty ROW", 100, x.fits(1, 0, 2));
        due(22, "EARS by an empty ROW", 32, x.fits(1, 0, 4));
        due(22, "the least EARS by an empty ROW", 0, x.fits(1, 0, 5));
        long[] many = new long[60];
        for (int two = 0; two < 30; two++) {
            many[2 * two + 1] = two < 20 ? 138 : 1;
        }
        fill(x, 1, 1, many);
        due(21, "judge: 20 twos at most", -2, x.judge(1));
        x.put(1, 39, 1);
        due(21, "judge: the twentieth", 19, x.judge(1));
        refusedBills(x);
    }

    private static void refusedBills(PassBill x) {
        x.body(0);
        x.keep(2, 0);
        x.row(3, 2, 4);
        int[] shelves = {-1, 6, 2, 3, 5};
        int[] want = {-1, -1, -12, -12, -11};
        for (int i = 0; i < shelves.length; i++) {
            due(21, "judge(" + shelves[i] + ")", want[i], x.judge(shelves[i]));
            for (int what = 0; what <= 5; what++) {
                due(22, "fits(" + shelves[i] + ", 0, " + what + ")", want[i], x.fits(shelves[i], 0, what));
            }
            due(22, "BAD first", -1, x.fits(shelves[i], 5, 0));
            due(22, "BAD first", -1, x.fits(shelves[i], 1, 2));
            due(22, "BAD first", -1, x.fits(shelves[i], 0, 6));
            due(22, "BAD first", -1, x.fits(shelves[i], 0, -1));
        }
    }

    private static void said() {
        PassBill x = three();
        due(23, "said(0)", 2, x.said(0));
        due(23, "said(1)", 0, x.said(1));
        due(23, "said(2)", 0, x.said(2));
        due(23, "said(3)", -1, x.said(3));
        due(23, "said(-1)", -1, x.said(-1));
        lawOf(x, "o=3");
        due(23, "said(0): one silent takes all away", 1, x.said(0));
        lawOf(x, "g=2");
        due(23, "said(0): one who goes takes all away", 1, x.said(0));
        due(23, "said(2): both alike", 1, x.said(2));
        due(23, "said(1): of like ones the least", 0, x.said(1));
        lawOf(x, "0");
        due(23, "said(0): nobody is", 0, x.said(0));
        due(23, "said(1): NOT", -2, x.said(1));
        due(23, "said(2): none above 0", 0, x.said(2));
        PassBill y = with(51, 51, 51, 50);
        due(23, "said(2): three pairs", 3, y.said(2));
        y.mend(0, 7, 3);
        y.mend(0, 9, 1);
        due(23, "said(1): a SHARE of 1", 0, y.said(1));
        due(23, "said(2): SHARES of 1", 3, y.said(2));
        due(23, "said(0)", 3, y.said(0));
    }

    private static void byTurns() {
        PassBill x = three();
        due(24, "byTurns(0, 1, 0): alone", 231, x.byTurns(0, 1, 0));
        due(24, "byTurns(0, 1, 1): by not hearing 1", 1, x.byTurns(0, 1, 1));
        due(24, "byTurns(0, 2, 0): she has him not heard", 0, x.byTurns(0, 2, 0));
        due(24, "byTurns(0, 2, 1): of like ones nobody", 8, x.byTurns(0, 2, 1));
        due(24, "byTurns(0, 3, 0): what she does, he takes back", 231, x.byTurns(0, 3, 0));
        due(24, "byTurns(0, 3, 1)", 1, x.byTurns(0, 3, 1));
        due(24, "byTurns(2, 3, 1): nothing helps", 8, x.byTurns(2, 3, 1));
        due(24, "byTurns(4, 1, 0): he is heard", 231 * 5 / 15, x.byTurns(4, 1, 0));
        due(24, "byTurns(4, 1, 1)", 4, x.byTurns(4, 1, 1));
        due(24, "n 0", -1, x.byTurns(0, 0, 0));
        due(24, "n 4", -1, x.byTurns(0, 4, 0));
        due(24, "what 2", -1, x.byTurns(0, 1, 2));
        due(24, "what -1", -1, x.byTurns(0, 1, -1));
        due(24, "one 5", -1, x.byTurns(5, 1, 0));
        due(24, "one -1", -1, x.byTurns(-1, 1, 0));
        due(24, "HEARD stays", 1, x.of(0, 5));
    }

    /** By hand: z of SEED 0 is 12345, whose SNOW is 48; then -676379724 .. (an int), worked out here again. */
    private static void drawn() {
        PassBill x = with(51, 50);
        due(25, "one year", 480, x.drawn(0, 10100, -1));
        due(25, "PURSE", 10, x.drawn(0, 10100, 0));
        due(25, "PURSE of the other one", 110, x.drawn(0, 10100, 1));
        int z = 0;
        int paid = 0;
        for (int year = 0; year < 6; year++) {
            z = z * 1103515245 + 12345;
            paid += (z >>> 8) % 100 * 10;
        }
        due(25, "three lives of two years", paid, x.drawn(0, 30200, -1));
        due(25, "three lives, their ends", 360, x.drawn(0, 30200, 1));
        due(25, "30 lives of 40 years, always in mood", x.drawn(5, 304012, -1), x.drawn(5, 304012, -1));
        int[] bad = {0, 100, 10000, 14100, 310100, 10113, 10199, -10100, 9999, LEAST_INT, MOST_INT};
        for (int nmm : bad) {
            due(25, "drawn(1, " + nmm + ", -1)", -1, x.drawn(1, nmm, -1));
        }
        due(25, "one 2", -1, x.drawn(1, 10100, 2));
        due(25, "one -2", -1, x.drawn(1, 10100, -2));
        due(25, "nothing in deed", 0, x.led(2));
        due(25, "SNOW stays", 20, x.of(0, 7));
        PassBill y = with(50);
        int seed = 3;
        int then = seed * 1103515245 + 12345;
        due(25, "his mood", (then >>> 20) % 4 == 1 ? (then >>> 8) % 100 * 10 : 0, y.drawn(seed, 10112, -1));
        due(25, "nobody", 0, new PassBill().drawn(1, 304012, -1));
    }

    private static void deeds() {
        PassBill x = with(51, 42);
        due(26, "takes(0, 3)", 1, x.takes(0, 3));
        due(26, "takes(0, 3) again", 3, x.takes(0, 3));
        due(26, "of(0, 3)", 3, x.of(0, 3));
        due(26, "takes(0, 4)", -1, x.takes(0, 4));
        due(26, "takes(0, -1)", -1, x.takes(0, -1));
        due(26, "takes(2, 0)", -1, x.takes(2, 0));
        due(26, "takes(-1, 0)", -1, x.takes(-1, 0));
        due(30, "led(0)", 2, x.led(0));
        due(27, "hears(1, 0)", 1, x.hears(1, 0));
        due(27, "hears(1, 0)", 0, x.hears(1, 0));
        due(27, "hears(1, 1)", 0, x.hears(1, 1));
        due(27, "hears(1, 1)", 1, x.hears(1, 1));
        due(27, "hears(1, 2)", -1, x.hears(1, 2));
        due(27, "hears(1, -1)", -1, x.hears(1, -1));
        due(27, "hears(2, 1)", -1, x.hears(2, 1));
        due(27, "hears(-1, 1)", -1, x.hears(-1, 1));
        due(30, "led(1): told that he is", 2, x.led(1));
        due(33, "deeds are no changes", -5, x.undo());
        x.takes(0, 1);
        due(28, "year()", 200, x.year());
        due(28, "PURSE of who pays", 10, x.of(0, 1));
        due(28, "PURSE of who goes", 100, x.of(1, 1));
        due(28, "AGE", 31, x.of(1, 2));
        due(28, "YEAR", 1, x.of(0, 8));
        due(28, "year()", 200, x.year());
        due(30, "led(2)", 2, x.led(2));
        due(30, "led(3)", 400, x.led(3));
        due(30, "led(4)", 290, x.led(4));
        due(30, "led(6)", -1, x.led(6));
        due(30, "led(-1)", -1, x.led(-1));
        x.mend(1, 1, 5);
        x.takes(0, 0);
        due(28, "nobody pays", 0, x.year());
        due(30, "going LACKS, too", 295, x.led(4));
        x.mend(0, 8, 199);
        x.mend(0, 1, 9999);
        x.year();
        due(28, "YEAR 199 stays", 199, x.of(0, 8));
        due(28, "PURSE 9999 at most", 9999, x.of(0, 1));
        due(30, "led(2) goes on", 4, x.led(2));
    }

    private static void gives() {
        PassBill x = with(50, 50);
        due(29, "gives(0, 1, 30)", 70, x.gives(0, 1, 30));
        due(29, "of(1, 1)", 130, x.of(1, 1));
        due(29, "gives all", 0, x.gives(0, 1, 70));
        due(29, "has not so much", -5, x.gives(0, 1, 1));
        due(29, "himself", -1, x.gives(1, 1, 1));
        due(29, "0", -1, x.gives(1, 0, 0));
        due(29, "10000", -1, x.gives(1, 0, 10000));
        due(29, "one 2", -1, x.gives(2, 0, 1));
        due(29, "one -1", -1, x.gives(-1, 0, 1));
        due(29, "other 2", -1, x.gives(0, 2, 1));
        due(29, "other -1", -1, x.gives(0, -1, 1));
        x.mend(0, 1, 9900);
        due(29, "the other one above 9999", -5, x.gives(1, 0, 100));
        due(29, "the other one at 9999", 101, x.gives(1, 0, 99));
        due(30, "led(5)", 199, x.led(5));
    }

    private static void images() {
        PassBill x = with(51, 42);
        x.mend(0, 8, 7);
        x.year();
        due(31, "image(): years, not YEAR", 1, x.image());
        x.year();
        x.takes(0, 3);
        x.hears(1, 0);
        x.gives(1, 0, 10);
        x.person(93);
        x.gives(0, 2, 5);
        x.mend(0, 0, 9);
        x.mend(0, 4, 3);
        x.mend(0, 6, 77);
        x.mend(0, 7, 77);
        x.mend(0, 9, 77);
        due(32, "back()", 1, x.back());
        int[] want = {9, 10, 31, 1, 3, 1, 77, 77};
        for (int what = 0; what <= 7; what++) {
            due(32, "of(0, " + what + ")", want[what], x.of(0, what));
        }
        due(32, "HEARD of 1", 1, x.of(1, 5));
        due(32, "PURSE of 1", 100, x.of(1, 1));
        due(32, "PURSE of one who came since", 105, x.of(2, 1));
        due(32, "count(0)", 3, x.count(0));
        due(32, "YEAR", 8, x.of(0, 8));
        int[] led = {0, 0, 1, 200, 100, 0};
        for (int what = 0; what < 6; what++) {
            due(32, "led(" + what + ")", led[what], x.led(what));
        }
        due(32, "changes stay", 6, x.count(3));
        x.year();
        due(32, "back() again", 1, x.back());
        x.year();
        due(31, "a second image()", 2, x.image());
        x.year();
        due(32, "back() to the second", 2, x.back());
    }

    private static void undone() {
        PassBill x = with(51);
        due(33, "undo()", -5, x.undo());
        due(34, "redo()", -5, x.redo());
        x.mend(0, 0, 5);
        due(33, "the same number is no change", 0, x.count(3));
        x.mend(0, 0, 6);
        x.mend(3, 7, 50);
        x.mend(0, 10, 1);
        due(33, "undo()", 2, x.undo());
        due(33, "undo()", 1, x.undo());
        due(33, "of(3, 7)", 20, x.of(3, 7));
        due(33, "of(0, 10)", 10, x.of(0, 10));
        due(34, "redo()", 1, x.redo());
        due(34, "of(3, 7)", 50, x.of(3, 7));
        x.mend(3, 7, 50);
        due(34, "redo() behind the same number", 0, x.redo());
        due(34, "of(0, 10)", 1, x.of(0, 10));
        due(34, "redo() of none", -5, x.redo());
        due(33, "undo()", 2, x.undo());
        x.takes(0, 2);
        x.year();
        due(34, "redo() behind deeds", 0, x.redo());
        due(33, "undo()", 2, x.undo());
        x.mend(0, 9, 3);
        due(34, "redo() behind another change", -5, x.redo());
        due(33, "count(3)", 3, x.count(3));
        for (int v = 1; v <= 41; v++) {
            x.mend(0, 1, v);
        }
        due(33, "40 are kept", 40, x.count(3));
        for (int left = 39; left >= 0; left--) {
            due(33, "undo()", left, x.undo());
        }
        due(33, "undo() of none", -5, x.undo());
        due(33, "the first is forgotten", 1, x.of(0, 1));
        for (int left = 39; left >= 0; left--) {
            due(34, "redo()", left, x.redo());
        }
        due(34, "of(0, 1)", 41, x.of(0, 1));
    }

    private static void acts() {
        PassBill x = new PassBill();
        due(35, "body(-1)", -1, x.body(-1));
        due(35, "body(8)", -1, x.body(8));
        for (int i = 0; i < 50; i++) {
            due(35, "body", i, x.body(i % 8));
        }
        due(35, "FULL", -3, x.body(0));
        due(35, "BAD ahead of FULL", -1, x.body(8));
        due(44, "count(4)", 50, x.count(4));
        ran(x, 8, 3, 7, 2 * 15 - (1 ^ 8), 2, 10, 1, 11);
        ran(x, 9, 3, 7, 2 * 19 - (1 ^ 9), 2, 10, 20, 1, 11);
        ran(x, 10, 3, 7, -34 - (1 ^ 10), 2, 30, 10, 1, 11);
        ran(x, 11, 3, 7, -38 - (1 ^ 11) * 3, 2, 41, 30, 10, 1, 40, 11);
        ran(x, 12, 3, 7, 2 * 22 - (1 ^ 12) ^ 5, 50, 2, 10, 20, 1, 11);
        ran(x, 13, 3, 7, -42 - ((1 ^ 13) * 3 - 15) + 1, 61, 2, 41, 30, 10, 1, 60, 40, 11, 1);
        ran(x, 14, 3, 7, 2 * 42 - (1 ^ 14), 2, 10, 70, 1, 11);
        ran(x, 15, 3, 7, 2 * 43 + (2 ^ 15) - (1 ^ 15), 2, 80, 10, 81, 70, 1, 11, 11);
        ran(x, 5, 2, LEAST_INT, (LEAST_INT ^ 5) * 3 - 7, 60, 40, 11, 1);
        ran(x, 49, 0, MOST_INT, MOST_INT + 49 + 3, 20, 1);
        ran(x, 4, 1, 1, 16, 10, 20, 1);
        for (int wrongOne : new int[] {-1, 50, LEAST_INT, MOST_INT}) {
            x.act(0, 0, 0);
            due(36, "no such BODY", 0, x.act(wrongOne, 0, 5));
            due(36, "no TRACE then", 0, x.count(5));
            due(37, "trace(0)", -1, x.trace(0));
        }
        x.act(0, 0, 0);
        due(36, "no such ACT", 0, x.act(1, 4, 5));
        due(36, "no TRACE then", -1, x.trace(0));
        due(36, "no such ACT", 0, x.act(1, -1, 5));
    }

    private static void ran(PassBill x, int body, int act, int n, int want, int... numbers) {
        due(36, "act(" + body + ", " + act + ", " + n + ")", want, x.act(body, act, n));
        due(44, "count(5)", numbers.length, x.count(5));
        for (int i = 0; i < numbers.length; i++) {
            due(37, "trace(" + i + ") of " + body, numbers[i], x.trace(i));
        }
        due(37, "trace beyond", -1, x.trace(numbers.length));
        due(37, "trace(-1)", -1, x.trace(-1));
    }

    private static void shelves() {
        PassBill x = new PassBill();
        x.body(5);
        for (int shelf : new int[] {-1, 6, LEAST_INT, MOST_INT}) {
            due(38, "keep", -1, x.keep(shelf, -1));
            due(39, "row", -1, x.row(shelf, 0, -1));
            due(40, "put", -1, x.put(shelf, 0, 1));
            due(41, "element", Long.MIN_VALUE, x.element(shelf, 0));
            due(42, "shift", -1, x.shift(shelf, 0, 0, 0, 0));
            due(42, "shift", -1, x.shift(0, 0, shelf, 0, 0));
            due(43, "taken", -1, x.taken(shelf, 0));
        }
        due(38, "keep(0, 0)", 1, x.keep(0, 0));
        due(38, "keep(0, 1)", -1, x.keep(0, 1));
        due(38, "keep(0, -2)", -1, x.keep(0, -2));
        due(43, "it is kept still", 5, x.taken(0, 5));
        due(38, "keep(0, -1)", 1, x.keep(0, -1));
        due(43, "nothing", -11, x.taken(0, 5));
        due(39, "sort -1", -1, x.row(0, -1, 1));
        due(39, "sort 5", -1, x.row(0, 5, 1));
        due(39, "n 61", -1, x.row(0, 0, 61));
        due(39, "n -1", -14, x.row(0, 0, -1));
        due(39, "BAD ahead of -14", -1, x.row(0, 5, -1));
        due(39, "n 60", 1, x.row(0, 3, 60));
        due(39, "n 0", 1, x.row(0, 3, 0));
        due(40, "nothing", -11, x.put(1, 0, 1));
        x.keep(1, 0);
        due(40, "a BODY", -12, x.put(1, 0, 1));
        due(41, "a BODY", Long.MIN_VALUE, x.element(1, 0));
        due(40, "no place", -13, x.put(0, 0, 1));
        due(41, "no place", Long.MIN_VALUE, x.element(0, 0));
        long v = 0x123456789ABCDEF0L;
        long[] want = {(byte) v, (short) v, (int) v, v, 1};
        for (int sort = 0; sort < 5; sort++) {
            x.row(0, sort, 3);
            due(41, "0 at first", 0, x.element(0, 2));
            due(40, "put", 1, x.put(0, 2, v));
            due(41, "element", want[sort], x.element(0, 2));
            due(40, "no place", -13, x.put(0, 3, 1));
            due(40, "no place", -13, x.put(0, -1, 1));
            due(41, "no place", Long.MIN_VALUE, x.element(0, 3));
            due(41, "no place", Long.MIN_VALUE, x.element(0, -1));
            x.put(0, 2, 256);
            due(41, "256", sort == 0 ? 0 : sort == 4 ? 1 : 256, x.element(0, 2));
        }
        for (long told : new long[] {1, 0, Long.MIN_VALUE, 0, 1L << 32, 2}) {
            x.put(0, 2, told);
            due(41, "a boolean: whether it is not 0", told == 0 ? 0 : 1, x.element(0, 2));
        }
        shifts(x);
    }

    private static void shifts(PassBill x) {
        fill(x, 0, 2, 1, 2, 3, 4, 5);
        fill(x, 2, 2, 7, 8);
        due(42, "up, over itself", 4, x.shift(0, 0, 0, 1, 4));
        int[] up = {1, 1, 2, 3, 4};
        for (int i = 0; i < 5; i++) {
            due(42, "element", up[i], x.element(0, i));
        }
        due(42, "down, over itself", 3, x.shift(0, 2, 0, 0, 3));
        int[] down = {2, 3, 4, 3, 4};
        for (int i = 0; i < 5; i++) {
            due(42, "element", down[i], x.element(0, i));
        }
        due(42, "to another one", 2, x.shift(2, 0, 0, 3, 2));
        due(42, "element", 8, x.element(0, 4));
        due(42, "none, at the end", 0, x.shift(2, 2, 0, 5, 0));
        int[][] no = {{-1, 0, 1}, {0, -1, 1}, {0, 0, 3}, {1, 0, 2}, {0, 4, 2}, {3, 0, 0}, {0, 6, 0}, {0, 0, -1},
            {MOST_INT, 0, 1}, {0, MOST_INT, 1}, {1, 1, MOST_INT}, {0, 0, LEAST_INT}, {LEAST_INT, 0, 0}};
        for (int[] places : no) {
            due(42, "no place", -13, x.shift(2, places[0], 0, places[1], places[2]));
        }
        due(42, "nothing", -11, x.shift(0, 0, 3, 0, 1));
        due(42, "nothing", -11, x.shift(3, 0, 0, 0, 1));
        due(42, "nothing ahead of a BODY", -11, x.shift(1, 0, 3, 0, 1));
        due(42, "a BODY", -12, x.shift(1, 0, 0, 0, 1));
        due(42, "a BODY", -12, x.shift(0, 0, 1, 0, 1));
        due(42, "two BODIES", -12, x.shift(1, 0, 1, 0, 1));
        x.row(4, 3, 5);
        due(42, "unlike sorts ahead of places", -12, x.shift(0, -1, 4, 0, 1));
    }

    private static void takenAndCount() {
        int[][] over = {{0}, {0, 1}, {0, 2}, {0, 2, 3}, {0, 1, 4}, {0, 2, 3, 5}, {0, 6}, {0, 6, 7}};
        PassBill x = new PassBill();
        for (int kind = 0; kind < 8; kind++) {
            x.keep(0, x.body(kind));
            for (int k = 0; k < 8; k++) {
                boolean under = false;
                for (int above : over[kind]) {
                    under |= above == k;
                }
                due(43, kind + " taken for " + k, under ? kind : -12, x.taken(0, k));
            }
        }
        due(43, "k 8", -1, x.taken(0, 8));
        due(43, "k -1", -1, x.taken(0, -1));
        due(43, "BAD ahead of -11", -1, x.taken(1, 8));
        due(43, "nothing", -11, x.taken(1, 0));
        x.row(1, 0, 1);
        due(43, "a ROW", -12, x.taken(1, 0));
        x.person(51);
        x.person(51);
        x.person(52);
        x.feed(1);
        x.mend(0, 0, 3);
        x.mend(0, 0, 4);
        x.act(3, 1, 1);
        int[] want = {3, 2, 1, 2, 8, 4};
        for (int what = 0; what < 6; what++) {
            due(44, "count(" + what + ")", want[what], x.count(what));
        }
        due(44, "count(6)", -1, x.count(6));
        due(44, "count(-1)", -1, x.count(-1));
    }

    public static void main(String[] args) {
        newObject();
        person();
        people();
        mendAndOf();
        feed();
        lawFaults();
        counts();
        now();
        rests();
        rates();
        pools();
        laterYears();
        brokeAndThrift();
        billed();
        said();
        byTurns();
        drawn();
        deeds();
        gives();
        images();
        undone();
        acts();
        shelves();
        takenAndCount();
        System.out.println(asked + " answers asked, " + wrong + " not as due");
        if (wrong != 0) {
            System.exit(1);
        }
    }
}
