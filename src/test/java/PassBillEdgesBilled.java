/** The edges that the document names of what was BILLED, of sayings and of turns: promises 21 to 24. */
public final class PassBillEdgesBilled {
    private static final Due due = Due.byDocument();
    private static final int SHORTS = 1;

    /** Of three, 0 owes 120 and 1 owes 80 of 200; 2 is silent. */
    private static PassBill three() {
        PassBill x = Due.with(51, 31, 50);
        x.mend(1, 4, 2);
        return x;
    }

    private static int judged(long... elements) {
        PassBill x = three();
        Due.fill(x, 0, SHORTS, elements);
        return x.judge(0);
    }

    private static void twos() {
        due.says("by twos one of PEOPLE, and his SHARE this YEAR");
        due.is("all is so", Due.NOT, judged(0, 120, 1, 80, 2, 0));
        due.is("the first is not", 0, judged(0, 121, 1, 80, 2, 0));
        due.is("the first is not, by less", 0, judged(0, 119, 1, 80, 2, 0));
        due.is("the second is not", 1, judged(0, 120, 1, 81, 2, 0));
        due.is("the third is not", 2, judged(0, 120, 1, 80, 2, 1));
        due.is("the first of two that are not", 1, judged(0, 120, 1, 0, 2, 1));
        due.is("a short keeps its lowest bits", Due.NOT, judged(65536, 65536 + 120));
        PassBill dear = Due.with(51);
        dear.mend(0, 7, 99);
        dear.mend(0, 9, 99);
        Due.fill(dear, 0, SHORTS, 0, 9801);
        due.is("the most SHARE", Due.NOT, dear.judge(0));
        due.says("(20 twos at most; it ends with what is no such)");
        for (int twos = 18; twos <= 30; twos++) {
            long[] all = new long[2 * twos];
            for (int two = 0; two < twos; two++) {
                all[2 * two + 1] = 120;
            }
            all[2 * twos - 1] = 121;
            due.is("the last of " + twos + " is not so", twos <= 20 ? twos - 1 : Due.NOT, judged(all));
        }
        due.is("one who is not there", Due.NOT, judged(3, 0, 0, 0));
        due.is("one far beyond", Due.NOT, judged(Short.MAX_VALUE, 0, 0, 0));
        due.is("one below 0", Due.NOT, judged(-1, 0, 0, 0));
        due.is("one far below 0", Due.NOT, judged(Short.MIN_VALUE, 0, 0, 0));
        due.is("the last who is there", 1, judged(0, 120, 2, 9));
        due.is("behind a wrong one it does not matter", 0, judged(0, 0, 3, 0));
        due.is("half a two", Due.NOT, judged(0, 120, 1));
        due.is("half a two alone", Due.NOT, judged(0));
        due.is("no twos", Due.NOT, judged());
        PassBill nobody = new PassBill();
        Due.fill(nobody, 0, SHORTS, 0, 0);
        due.is("nobody is there", Due.NOT, nobody.judge(0));
        PassBill crowd = Due.crowd(8, 50);
        Due.fill(crowd, 0, SHORTS, 7, 1, 8, 1);
        due.is("the last of eight", 0, crowd.judge(0));
        due.says("BILLED: a SHARE below 0 is no such; one told twice counts twice.");
        due.is("a SHARE of -1", Due.NOT, judged(0, -1, 0, 0));
        due.is("a SHARE of 32768", Due.NOT, judged(0, 32768, 0, 0));
        due.is("a SHARE of 0", 0, judged(0, 0));
        due.is("a SHARE of 32767", 0, judged(0, 32767));
        due.is("told twice, so both times", Due.NOT, judged(0, 120, 0, 120));
        due.is("told twice, so the first time", 1, judged(0, 120, 0, 119));
        due.is("told twice, so the second time", 0, judged(0, 119, 0, 120));
    }

    private static PassBill told(long... elements) {
        PassBill x = three();
        Due.fill(x, 0, SHORTS, elements);
        return x;
    }

    private static void fitting() {
        due.says("HABITS: by which HABITS (bits 0 .. 3) of a told one all is so.");
        due.is("HABIT 1 alone", 2, told(0, 120, 1, 80).fits(0, 0, 0));
        due.is("all but HABIT 1", 13, told(1, 200).fits(0, 0, 0));
        due.is("all", 15, told().fits(0, 0, 0));
        due.is("none", 0, told(0, 1).fits(0, 0, 0));
        due.is("of one who is silent: all but HABIT 1", 13, told(0, 120).fits(0, 2, 0));
        due.is("of one who is silent: HABIT 1", 2, told(0, 75).fits(0, 2, 0));
        due.says("KINDS: by which KINDS (bits 0 .. 4).");
        due.is("KIND 0 alone", 1, told(0, 120).fits(0, 0, 1));
        due.is("KIND 4 alone", 16, told(0, 66).fits(0, 0, 1));
        due.is("all", 31, told().fits(0, 0, 1));
        due.is("all, of one who is silent", 31, told(0, 120).fits(0, 2, 1));
        due.is("none", 0, told(0, 1).fits(0, 0, 1));
        due.says("SNOWS: by how many SNOWS (0 .. 99) of this YEAR; the least (NOT).");
        due.is("one: how many", 1, told(0, 120).fits(0, 0, 2));
        due.is("one: the least", 20, told(0, 120).fits(0, 0, 3));
        due.is("0: how many", 1, told(0, 0).fits(0, 0, 2));
        due.is("0: the least", 0, told(0, 0).fits(0, 0, 3));
        due.is("99: how many", 1, told(0, 594).fits(0, 0, 2));
        due.is("99: the least", 99, told(0, 594).fits(0, 0, 3));
        due.is("100 is none: how many", 0, told(0, 600).fits(0, 0, 2));
        due.is("100 is none: the least", Due.NOT, told(0, 600).fits(0, 0, 3));
        due.is("all: how many", 100, told(2, 0).fits(0, 0, 2));
        due.is("all: the least", 0, told(2, 0).fits(0, 0, 3));
        PassBill cut = told(0, 1);
        cut.mend(0, 9, 1);
        due.is("two, by cutting: how many", 2, cut.fits(0, 0, 2));
        due.is("two, by cutting: the least", 2, cut.fits(0, 0, 3));
        PassBill year = told(0, 6);
        year.mend(0, 8, 199);
        year.mend(7, 7, 1);
        due.is("of YEAR 199", 1, year.fits(0, 0, 3));
        PassBill law = told(0, 10);
        Due.law(law, "s=1");
        due.is("by a law of SNOW", 0, law.fits(0, 0, 2));
        Due.law(law, "s=2");
        due.is("by another one", 2, law.fits(0, 0, 3));
    }

    private static void ears() {
        due.says("EARS: by how many sets of those HEARD all is so; the least (bits; NOT).");
        due.is("both, and whoever is silent: how many", 2, told(0, 120).fits(0, 0, 4));
        due.is("both: the least", 3, told(0, 120).fits(0, 0, 5));
        due.is("one without the other: how many", 2, told(0, 200).fits(0, 0, 4));
        due.is("one without the other: the least", 1, told(0, 200).fits(0, 0, 5));
        due.is("the other: the least", 2, told(1, 200).fits(0, 0, 5));
        due.is("none heard: how many", 2, told(0, 0, 1, 0).fits(0, 0, 4));
        due.is("none heard: the least", 0, told(0, 0, 1, 0).fits(0, 0, 5));
        due.is("all sets", 8, told().fits(0, 0, 4));
        due.is("no set: how many", 0, told(0, 1).fits(0, 0, 4));
        due.is("no set: the least", Due.NOT, told(0, 1).fits(0, 0, 5));
        PassBill deaf = told(0, 120);
        deaf.hears(0, 0);
        deaf.hears(1, 0);
        due.is("whoever is HEARD now", 3, deaf.fits(0, 0, 5));
        PassBill crowd = Due.crowd(8, 51);
        Due.fill(crowd, 0, SHORTS, 0, 25);
        due.is("all of eight: how many", 1, crowd.fits(0, 0, 4));
        due.is("all of eight: the least", 255, crowd.fits(0, 0, 5));
        crowd.row(0, SHORTS, 0);
        due.is("all sets of eight", 256, crowd.fits(0, 0, 4));
        PassBill last = Due.crowd(8, 50);
        last.takes(7, 1);
        Due.fill(last, 0, SHORTS, 7, 200);
        due.is("the last of eight", 128, last.fits(0, 0, 5));
        PassBill nobody = new PassBill();
        nobody.row(0, SHORTS, 0);
        due.is("of nobody: how many", 1, nobody.fits(0, 0, 4));
        due.is("of nobody: the least", 0, nobody.fits(0, 0, 5));
    }

    private static void refused() {
        due.says("---- what was billed (a ROW of shorts on a SHELF: BAD, -11, -12).");
        PassBill x = three();
        x.body(0);
        x.keep(1, 0);
        int[] sorts = {0, 2, 3, 4};
        for (int k = 0; k < 4; k++) {
            x.row(2 + k, sorts[k], 6);
        }
        int[] shelves = {-1, 6, Due.LEAST_INT, Due.MOST_INT, 0, 1, 2, 3, 4, 5};
        for (int shelf : shelves) {
            int want = shelf < 0 || shelf > 5 ? Due.BAD : shelf == 0 ? Due.NOTHING : Due.OTHER;
            due.is("judge(" + shelf + ")", want, x.judge(shelf));
            for (int what = 0; what <= 5; what++) {
                due.is("fits(" + shelf + ", 0, " + what + ")", want, x.fits(shelf, 0, what));
                for (int one : new int[] {-1, 3, Due.LEAST_INT, Due.MOST_INT}) {
                    due.is("fits(" + shelf + ", " + one + ", " + what + ")", Due.BAD, x.fits(shelf, one, what));
                }
            }
            due.is("fits(" + shelf + ", 0, -1)", Due.BAD, x.fits(shelf, 0, -1));
            due.is("fits(" + shelf + ", 0, 6)", Due.BAD, x.fits(shelf, 0, 6));
        }
        due.promises(22, "(one 0 for 2 to 5).");
        for (int what = 0; what <= 5; what++) {
            PassBill all = told();
            int[] want = {15, 31, 100, 0, 8, 0};
            due.is("one 0, what " + what, want[what], all.fits(0, 0, what));
            for (int one = 1; one <= 2; one++) {
                due.is("one " + one + ", what " + what, what < 2 ? want[what] : Due.BAD, all.fits(0, one, what));
            }
            for (int one : new int[] {-1, 3, 8, Due.LEAST_INT, Due.MOST_INT}) {
                due.is("one " + one + ", what " + what, Due.BAD, all.fits(0, one, what));
            }
            PassBill nobody = new PassBill();
            nobody.row(0, SHORTS, 0);
            due.is("nobody, what " + what, what < 2 ? Due.BAD : what == 4 ? 1 : want[what], nobody.fits(0, 0, what));
        }
        for (int what : new int[] {-1, 6, Due.LEAST_INT, Due.MOST_INT}) {
            due.is("what " + what, Due.BAD, told().fits(0, 0, what));
        }
        due.promises(21, "JUDGED. NOT.");
        PassBill fifth = three();
        fifth.row(5, SHORTS, 0);
        due.is("the last SHELF", Due.NOT, fifth.judge(5));
    }

    private static void said() {
        due.says("LEAST SAID: the fewest of PEOPLE who, silent (HABIT 0), would leave nobody ASSESSED: how many.");
        due.is("nobody", 0, new PassBill().said(0));
        due.is("none is ASSESSED", 0, Due.with(50, 52, 53).said(0));
        for (int people = 1; people <= 8; people++) {
            due.is("all of " + people, people, Due.crowd(people, 51).said(0));
        }
        PassBill by0 = Due.crowd(3, 51);
        Due.law(by0, "0");
        due.is("all by 0", 0, by0.said(0));
        PassBill others = Due.crowd(8, 51);
        Due.law(others, "o=7");
        due.is("one takes the others' away", 1, others.said(0));
        Due.law(others, "o>3");
        due.is("four take the others' away", 4, others.said(0));
        PassBill goer = Due.with(51, 51, 51, 53);
        Due.law(goer, "g");
        due.is("one who went by night", 1, goer.said(0));
        PassBill deaf = Due.crowd(3, 51);
        deaf.hears(1, 0);
        due.is("who is not HEARD need not be", 2, deaf.said(0));
        due.says("DEAREST: the one of most SHARE (of like ones the least; NOT: none has any).");
        due.is("nobody", Due.NOT, new PassBill().said(1));
        due.is("none has any", Due.NOT, Due.with(50, 52, 53).said(1));
        due.is("all alike", 0, Due.crowd(8, 51).said(1));
        due.is("two alike behind one without", 1, Due.with(50, 51, 51).said(1));
        PassBill last = Due.crowd(8, 1);
        last.mend(7, 0, 9);
        due.is("the last of eight", 7, last.said(1));
        PassBill cut = Due.with(51, 51);
        cut.mend(0, 7, 1);
        cut.mend(0, 9, 1);
        due.is("all cut to 0", Due.NOT, cut.said(1));
        cut.mend(0, 9, 2);
        due.is("a SHARE of 1", 0, cut.said(1));
        due.says("ALIKE: how many pairs have the same SHARE (above 0).");
        due.is("nobody", 0, new PassBill().said(2));
        due.is("none above 0", 0, Due.crowd(8, 50).said(2));
        due.is("one alone", 0, Due.with(51).said(2));
        for (int people = 2; people <= 8; people++) {
            due.is("all of " + people, people * (people - 1) / 2, Due.crowd(people, 51).said(2));
        }
        due.is("two and two", 2, Due.with(1, 91, 1, 91).said(2));
        due.is("SHARES of 1", 1, cut.said(2));
        cut.mend(0, 9, 1);
        due.is("SHARES of 0", 0, cut.said(2));
        due.promises(23, "LEAST SAID (what 0), DEAREST (1; NOT), ALIKE (2). BAD.");
        for (int what : new int[] {-1, 3, Due.LEAST_INT, Due.MOST_INT}) {
            due.is("said(" + what + ")", Due.BAD, Due.with(51).said(what));
        }
    }

    private static void turns(String call, PassBill x, int one, int n, int share, int pick) {
        due.is(call + ": that", share, x.byTurns(one, n, 0));
        due.is(call + ": whom first", pick, x.byTurns(one, n, 1));
    }

    private static void byTurns() {
        due.says("BY TURNS: clerk and grandmother, n (1 .. 3) times in all, the clerk first");
        turns("the clerk alone", three(), 0, 1, 200, 1);
        turns("then she", three(), 0, 2, 0, 8);
        turns("then he again", three(), 0, 3, 200, 1);
        for (int n : new int[] {-1, 0, 4, 5, Due.LEAST_INT, Due.MOST_INT}) {
            turns("n " + n, three(), 0, n, Due.BAD, Due.BAD);
        }
        due.says("he lets one be HEARD or not (the other than now), she likewise one, or either nothing");
        PassBill deaf = three();
        deaf.hears(0, 0);
        turns("he is HEARD by that", deaf, 0, 1, 120, 0);
        turns("she takes it back", deaf, 0, 2, 0, 8);
        turns("his last turn is enough", deaf, 0, 3, 120, 8);
        PassBill other = three();
        other.hears(1, 0);
        turns("nothing is best", other, 0, 1, 200, 8);
        turns("what is now is laid back by both", Due.with(51), 0, 3, 200, 8);
        due.says("(8: nobody; of like ones nobody first, then the least)");
        turns("one alone who says it", Due.with(51), 0, 1, 200, 8);
        turns("one alone who is silent", Due.with(50), 0, 3, 0, 8);
        turns("the least of two like ones", Due.crowd(3, 51), 0, 1, 100, 1);
        turns("the least of two like ones", Due.crowd(3, 51), 1, 1, 100, 0);
        turns("the least of seven like ones", Due.crowd(8, 51), 7, 1, 200 / 7, 0);
        PassBill last = Due.crowd(8, 51);
        for (int one = 0; one < 8; one++) {
            last.mend(one, 4, 4);
        }
        last.mend(7, 4, 0);
        turns("the last of eight counts most", last, 0, 1, 200 * 2 / 14, 7);
        PassBill idle = Due.with(50, 51, 31);
        idle.hears(1, 0);
        turns("who is silent does not help, though he comes first", idle, 1, 1, 200 / 2, 1);
        due.promises(24, "BY TURNS: that (what 0), whom first (1). BAD.");
        for (int what : new int[] {-1, 2, Due.LEAST_INT, Due.MOST_INT}) {
            due.is("what " + what, Due.BAD, three().byTurns(0, 1, what));
        }
        for (int people : new int[] {0, 1, 8}) {
            PassBill x = Due.crowd(people, 50);
            for (int one : new int[] {-1, 0, people - 1, people, 8, Due.LEAST_INT, Due.MOST_INT}) {
                boolean there = one >= 0 && one < people;
                turns("one " + one + " of " + people, x, one, 1, there ? 0 : Due.BAD, there ? 8 : Due.BAD);
            }
        }
    }

    public static void main(String[] args) {
        twos();
        fitting();
        ears();
        refused();
        said();
        byTurns();
        due.end();
    }
}
