/** The edges that the document names of a new object, of PEOPLE and of their numbers: promises 1 to 5. */
public final class PassBillEdgesPeople {
    private static final Due due = Due.byDocument();
    private static final String[] WORDS = {
        "WISH (0 .. 9;", "PURSE (0 .. 9999; 100 at first)", "AGE (0 .. 99; 30 at first)",
        "HABIT (0 silent and stays, 1 says and stays, 2 says and goes, 3 goes by night, unsaid; 0 at first)",
        "KIND (0 .. 4: how he says it; 0 at first)", "HEARD (0, 1: by the clerk; 1 at first)",
        "EARNS (0 .. 99 a year; 10 at first)", "SNOW of each of eight YEARS (0 .. 99; 20 at first;",
        "YEAR (0 .. 199; 0 at first)", "RATE (1 .. 99; 10 at first)",
        "BOAST (0 .. 99: what it is worth to have said it; 10 at first)"};
    private static final int[] LEAST = {0, 0, 0, 0, 0, 0, 0, 0, 0, 1, 0};
    private static final int[] MOST = {9, 9999, 99, 3, 4, 1, 99, 99, 199, 99, 99};
    private static final int[] FIRST = {5, 100, 30, 0, 0, 1, 10, 20, 0, 10, 10};

    private static void newObject() {
        due.promises(1, "A pass, nobody.");
        PassBill x = new PassBill();
        for (int what = 0; what <= 5; what++) {
            due.is("count(" + what + ")", 0, x.count(what));
            due.is("led(" + what + ")", 0, x.led(what));
        }
        for (int what = 0; what <= 6; what++) {
            due.is("of(0, " + what + ")", Due.BAD, x.of(0, what));
        }
        due.is("trace(0)", Due.BAD, x.trace(0));
        due.is("back()", Due.STATE, x.back());
        due.is("undo()", Due.STATE, x.undo());
        due.is("redo()", Due.STATE, x.redo());
        due.is("law()", -100, x.law());
        due.says("SHELVES 0 .. 5 each hold nothing (at first)");
        for (int shelf = 0; shelf < 6; shelf++) {
            due.is("taken(" + shelf + ", 0)", Due.NOTHING, x.taken(shelf, 0));
            due.is("put(" + shelf + ", 0, 0)", Due.NOTHING, x.put(shelf, 0, 0));
        }
    }

    private static void ranges() {
        for (int what = 0; what <= 10; what++) {
            due.says(WORDS[what]);
            int[] tried = {LEAST[what] - 1, LEAST[what], MOST[what], MOST[what] + 1, -1 - MOST[what], 256 + LEAST[what],
                65536 + LEAST[what], Due.LEAST_INT, Due.MOST_INT};
            for (int v : tried) {
                PassBill x = Due.with(50);
                boolean may = v >= LEAST[what] && v <= MOST[what];
                String call = "mend(0, " + what + ", " + v + ")";
                due.is("of(0, " + what + ") at first", FIRST[what], x.of(0, what));
                due.is(call, may ? FIRST[what] : Due.BAD, x.mend(0, what, v));
                due.is("of(0, " + what + ") behind " + call, may ? v : FIRST[what], x.of(0, what));
                due.is("count(3) behind " + call, may && v != FIRST[what] ? 1 : 0, x.count(3));
            }
        }
    }

    /** One number is mended: no other one is touched by it. */
    private static void eachAlone() {
        due.promises(4, "becomes v: what it was.");
        for (int what = 0; what <= 10; what++) {
            for (int number = 0; number < (what <= 7 ? 8 : 1); number++) {
                PassBill x = Due.crowd(8, 50);
                String call = "mend(" + number + ", " + what + ", " + MOST[what] + ")";
                int v = MOST[what] == FIRST[what] ? LEAST[what] : MOST[what];
                due.is(call, FIRST[what], x.mend(number, what, v));
                due.is(call + " again", v, x.mend(number, what, v));
                for (int other = 0; other <= 10; other++) {
                    for (int who = 0; who < (other <= 7 ? 8 : 1); who++) {
                        boolean same = other == what && who == number;
                        due.is("of(" + who + ", " + other + ") behind " + call, same ? v : FIRST[other], x.of(who, other));
                    }
                }
            }
        }
    }

    private static void numbers() {
        due.promises(4, "WISH (what 0), PURSE (1), AGE (2), HABIT (3), KIND (4), HEARD (5), EARNS (6) of one");
        for (int what = 0; what <= 6; what++) {
            for (int people : new int[] {0, 1, 7, 8}) {
                PassBill x = Due.crowd(people, 50);
                for (int number : new int[] {-1, 0, people - 1, people, 7, 8, 9, 64, Due.LEAST_INT, Due.MOST_INT}) {
                    boolean there = number >= 0 && number < people;
                    String call = number + ", " + what + " of " + people;
                    due.is("of " + call, there ? FIRST[what] : Due.BAD, x.of(number, what));
                    due.is("mend " + call, there ? FIRST[what] : Due.BAD, x.mend(number, what, FIRST[what]));
                }
            }
        }
        due.promises(4, "SNOW (7) of one of YEARS 0 .. 7");
        for (int people : new int[] {0, 8}) {
            PassBill x = Due.crowd(people, 50);
            for (int number : new int[] {-1, 0, 7, 8, 15, 199, Due.LEAST_INT, Due.MOST_INT}) {
                boolean there = number >= 0 && number <= 7;
                due.is("of(" + number + ", 7)", there ? 20 : Due.BAD, x.of(number, 7));
                due.is("mend(" + number + ", 7, 20)", there ? 20 : Due.BAD, x.mend(number, 7, 20));
            }
        }
        due.promises(4, "YEAR (8), RATE (9), BOAST (10; number 0 for these)");
        for (int what = 8; what <= 10; what++) {
            PassBill x = Due.crowd(2, 50);
            for (int number : new int[] {-1, 0, 1, 2, 7, Due.LEAST_INT, Due.MOST_INT}) {
                due.is("of(" + number + ", " + what + ")", number == 0 ? FIRST[what] : Due.BAD, x.of(number, what));
                due.is("mend(" + number + ", " + what + ", 9)", number == 0 ? FIRST[what] : Due.BAD, x.mend(number, what, 9));
            }
        }
        due.promises(5, "As of mend() (0 to 10). BAD.");
        for (int what : new int[] {-1, 11, 12, Due.LEAST_INT, Due.MOST_INT}) {
            PassBill x = Due.crowd(8, 50);
            due.is("of(0, " + what + ")", Due.BAD, x.of(0, what));
            due.is("mend(0, " + what + ", 1)", Due.BAD, x.mend(0, what, 1));
        }
    }

    private static void snowOfYears() {
        due.says("YEAR y has that of y % 8)");
        for (int year = 0; year <= 199; year++) {
            PassBill x = new PassBill();
            for (int y = 0; y < 8; y++) {
                x.mend(y, 7, 30 + y);
            }
            x.mend(0, 8, year);
            due.is("bill(0) of YEAR " + year, 10 * (30 + year % 8), x.bill(0));
        }
    }

    private static void person() {
        due.promises(2, "One of PEOPLE (wh: 10 times WISH, and HABIT): the number.");
        for (int wh = -200; wh <= 300; wh++) {
            PassBill x = new PassBill();
            boolean may = wh >= 0 && wh <= 99 && wh % 10 <= 3;
            due.is("person(" + wh + ")", may ? 0 : Due.BAD, x.person(wh));
            due.is("count(0) behind person(" + wh + ")", may ? 1 : 0, x.count(0));
            due.is("WISH by " + wh, may ? wh / 10 : Due.BAD, x.of(0, 0));
            due.is("HABIT by " + wh, may ? wh % 10 : Due.BAD, x.of(0, 3));
        }
        for (int wh : new int[] {Due.LEAST_INT, Due.MOST_INT, 256 + 51, 65536 + 51}) {
            due.is("person(" + wh + ")", Due.BAD, new PassBill().person(wh));
        }
        due.promises(2, "BAD, FULL: 8.");
        PassBill x = new PassBill();
        for (int number = 0; number < 8; number++) {
            due.is("the next person(51)", number, x.person(51));
        }
        due.is("the ninth", Due.FULL, x.person(51));
        due.is("the ninth, not as said", Due.BAD, x.person(54));
        due.is("the tenth", Due.FULL, x.person(0));
        due.is("count(0)", 8, x.count(0));
    }

    private static PassBill rowOf(long... bytes) {
        PassBill x = new PassBill();
        Due.fill(x, 0, 0, bytes);
        return x;
    }

    private static void peopleNumbers() {
        due.promises(3, "from place i on, n (1 .. 8) of them: how many came.");
        for (int n : new int[] {-1, 0, 1, 2, 7, 8, 9, Due.LEAST_INT, Due.MOST_INT}) {
            PassBill x = rowOf(new long[60]);
            due.is("people(0, 0, " + n + ")", n >= 1 && n <= 8 ? n : Due.BAD, x.people(0, 0, n));
            due.is("count(0)", n >= 1 && n <= 8 ? n : 0, x.count(0));
        }
        for (int shelf : new int[] {-1, 0, 5, 6, Due.LEAST_INT, Due.MOST_INT}) {
            PassBill x = new PassBill();
            x.row(shelf, 0, 3);
            due.is("people(" + shelf + ", 0, 1)", shelf == 0 || shelf == 5 ? 1 : Due.BAD, x.people(shelf, 0, 1));
        }
        PassBill x = rowOf(8, 77, 2, 1, 2, 3);
        due.is("two from a row", 2, x.people(0, 0, 2));
        int[] first = {8, 100, 77, 2, 0, 1, 10};
        int[] second = {1, 100, 2, 3, 0, 1, 10};
        for (int what = 0; what <= 6; what++) {
            due.is("of(0, " + what + ")", first[what], x.of(0, what));
            due.is("of(1, " + what + ")", second[what], x.of(1, what));
        }
    }

    private static void peopleEnd() {
        due.says("it ends where the row is missing, ends (within a three, too)");
        for (int i : new int[] {-60, -3, -1, Due.LEAST_INT, 60, 61, 63, Due.MOST_INT, Due.MOST_INT - 2}) {
            due.is("people(0, " + i + ", 8) of 60", 0, rowOf(new long[60]).people(0, i, 8));
            due.is("people(0, " + i + ", 8) of nothing", 0, new PassBill().people(0, i, 8));
            due.is("people(0, " + i + ", 8) of no bytes", 0, rowOf().people(0, i, 8));
        }
        int[] from = {0, 36, 37, 38, 39, 54, 55, 56, 57, 58, 59};
        int[] came = {8, 8, 7, 7, 7, 2, 1, 1, 1, 0, 0};
        for (int k = 0; k < from.length; k++) {
            due.is("people(0, " + from[k] + ", 8) of 60", came[k], rowOf(new long[60]).people(0, from[k], 8));
        }
        for (int size = 0; size <= 9; size++) {
            due.is("people(0, 0, 8) of " + size, size / 3, rowOf(new long[size]).people(0, 0, 8));
            due.is("people(0, 1, 8) of " + size, Math.max(0, size - 1) / 3, rowOf(new long[size]).people(0, 1, 8));
        }
        due.says("one is not as it may be");
        long[][] threes = {{0, 0, 0}, {9, 99, 3}, {-1, 0, 0}, {10, 0, 0}, {0, -1, 0}, {0, 100, 0}, {0, 0, -1}, {0, 0, 4},
            {127, 0, 0}, {128, 0, 0}, {0, 127, 0}, {0, 128, 0}, {256 + 9, 256 + 99, 256 + 3}, {255, 0, 0}, {0, 0, 127}};
        boolean[] may = {true, true, false, false, false, false, false, false, false, false, false, false, true, false, false};
        for (int k = 0; k < threes.length; k++) {
            long[] t = threes[k];
            String told = t[0] + " " + t[1] + " " + t[2];
            due.is(told, may[k] ? 1 : 0, rowOf(t).people(0, 0, 1));
            PassBill x = rowOf(5, 30, 1, t[0], t[1], t[2], 5, 30, 1);
            due.is("those ahead of " + told, may[k] ? 3 : 1, x.people(0, 0, 3));
            due.is("count(0)", may[k] ? 3 : 1, x.count(0));
        }
        due.says("or PEOPLE are FULL: those ahead came.");
        for (int there = 0; there <= 8; there++) {
            PassBill x = Due.crowd(there, 51);
            x.row(0, 0, 60);
            due.is("people(0, 0, 8) to " + there, 8 - there, x.people(0, 0, 8));
            due.is("count(0)", 8, x.count(0));
            due.is("people(0, 0, 8) to 8", 0, x.people(0, 0, 8));
        }
    }

    private static void peopleRefused() {
        due.promises(3, "BAD, -12 (no ROW of bytes; a SHELF that holds nothing is missing).");
        due.is("nothing", 0, new PassBill().people(0, 0, 1));
        PassBill emptied = rowOf(1, 1, 1);
        emptied.keep(0, -1);
        due.is("nothing any more", 0, emptied.people(0, 0, 1));
        for (int sort = 1; sort <= 5; sort++) {
            for (int i : new int[] {0, -1, 60, Due.MOST_INT}) {
                PassBill x = Due.crowd(i == 60 ? 8 : 0, 51);
                x.body(0);
                due.is("the shelf is filled", 1, sort == 5 ? x.keep(0, 0) : x.row(0, sort, 6));
                due.is("people(0, " + i + ", 1) of sort " + sort, Due.OTHER, x.people(0, i, 1));
                due.is("people(0, " + i + ", 9) of sort " + sort, Due.BAD, x.people(0, i, 9));
                due.is("people(0, " + i + ", 0) of sort " + sort, Due.BAD, x.people(0, i, 0));
                due.is("people(6, " + i + ", 1) of sort " + sort, Due.BAD, x.people(6, i, 1));
            }
        }
        due.is("n 0 of nothing", Due.BAD, new PassBill().people(0, 0, 0));
        due.is("n 9 of nothing", Due.BAD, new PassBill().people(0, -1, 9));
    }

    public static void main(String[] args) {
        newObject();
        ranges();
        eachAlone();
        numbers();
        snowOfYears();
        person();
        peopleNumbers();
        peopleEnd();
        peopleRefused();
        due.end();
    }
}
