/** The edges that the document names of a year as it is now: promises 9 to 17. */
public final class PassBillEdgesNow {
    private static final Due due = Due.byDocument();

    private static PassBill snowy(int snow, int rate, int... whs) {
        PassBill x = Due.with(whs);
        x.mend(0, 7, snow);
        x.mend(0, 9, rate);
        return x;
    }

    private static void assessed() {
        due.says("IN A YEAR one is ASSESSED by what his saying COUNTS, if HABIT is 1 and he is HEARD; else by 0.");
        for (int habit = 0; habit <= 3; habit++) {
            for (int heard = 0; heard <= 1; heard++) {
                PassBill x = Due.with(50 + habit);
                x.mend(0, 5, heard);
                boolean is = habit == 1 && heard == 1;
                String call = " of HABIT " + habit + ", HEARD " + heard;
                due.is("share(0)" + call, is ? 200 : 0, x.share(0));
                due.is("count(1)" + call, is ? 1 : 0, x.count(1));
                due.is("bill(1)" + call, is ? 0 : 200, x.bill(1));
            }
        }
        due.says("THE BILL is SNOW by RATE (times).");
        int[][] bills = {{0, 1, 0}, {0, 99, 0}, {1, 1, 1}, {99, 1, 99}, {1, 99, 99}, {99, 99, 9801}};
        for (int[] b : bills) {
            PassBill x = snowy(b[0], b[1], 51);
            due.is("bill(0) of " + b[0] + " by " + b[1], b[2], x.bill(0));
            due.is("share(0) of " + b[0] + " by " + b[1], b[2], x.share(0));
            due.is("bill(1) of " + b[0] + " by " + b[1], 0, x.bill(1));
        }
        due.promises(9, "THE BILL (what 0), what is not shared out (1). BAD.");
        for (int what : new int[] {-1, 2, Due.LEAST_INT, Due.MOST_INT}) {
            due.is("bill(" + what + ")", Due.BAD, Due.with(51).bill(what));
        }
    }

    private static void shares() {
        due.says("His SHARE: THE BILL by what he is ASSESSED by, by what all are (cut); none is ASSESSED: 0.");
        due.is("share(0): the half of 1", 0, snowy(1, 1, 51, 51).share(0));
        due.is("share(0): the half of 2", 1, snowy(2, 1, 51, 51).share(0));
        due.is("share(0): the half of 3", 1, snowy(3, 1, 51, 51).share(0));
        due.is("share(0): an eighth of 9801", 1225, snowy(99, 99, 51, 51, 51, 51, 51, 51, 51, 51).share(0));
        PassBill unlike = snowy(99, 99, 1, 61);
        Due.law(unlike, "w?20;1");
        due.is("share(0): 1 of 21 parts of 9801", 466, unlike.share(0));
        due.is("share(1): 20 of 21 parts of 9801", 9334, unlike.share(1));
        PassBill none = Due.with(51, 51);
        Due.law(none, "0");
        due.is("share(0) that counts 0", 0, none.share(0));
        due.is("share(0) of one who is silent", 0, Due.with(50).share(0));
        due.promises(10, "SHARE. BAD.");
        for (int people : new int[] {0, 1, 8}) {
            for (int one : new int[] {-1, 0, people - 1, people, 8, Due.LEAST_INT, Due.MOST_INT}) {
                boolean there = one >= 0 && one < people;
                due.is("share(" + one + ") of " + people, there ? 200 / people : Due.BAD, Due.crowd(people, 51).share(one));
            }
        }
        due.says("what is not shared out of THE BILL (by cutting, or as none is ASSESSED)");
        due.is("bill(1) of nobody", 200, new PassBill().bill(1));
        due.is("bill(1) as none is ASSESSED", 200, Due.with(50, 52, 53).bill(1));
        due.is("bill(1) as one counts 0", 200, none.bill(1));
        due.is("bill(1) by cutting into 7", 4, Due.crowd(7, 51).bill(1));
        due.is("bill(1) by cutting into 8", 0, Due.crowd(8, 51).bill(1));
        due.is("bill(1) of a BILL below all", 7, snowy(7, 1, 51, 51, 51, 51, 51, 51, 51, 51).bill(1));
        due.is("bill(1) of no SNOW", 0, snowy(0, 9, 50).bill(1));
    }

    private static void worths() {
        due.says("Going costs SNOW by 2 (cut).");
        int[][] costs = {{0, 0}, {1, 0}, {2, 1}, {3, 1}, {98, 49}, {99, 49}};
        for (int[] c : costs) {
            due.is("worth(0) by night through " + c[0], 90 - c[1], snowy(c[0], 10, 93).worth(0));
            due.is("PURSE behind " + c[0], 110 - c[1], snowy(c[0], 10, 93).later(1, 0, 0));
        }
        due.says("WORTH of a year to him: 10 times WISH, less what going costs, if he goes; and BOAST, if he says it; less his SHARE.");
        int[] least = {0, -9801, -49, -49};
        int[] most = {0, 99, 189, 90};
        for (int habit = 0; habit <= 3; habit++) {
            PassBill poor = snowy(99, 99, habit);
            poor.mend(0, 10, 0);
            due.is("the least WORTH of HABIT " + habit, least[habit], poor.worth(0));
            PassBill rich = snowy(0, 99, 90 + habit);
            rich.mend(0, 10, 99);
            due.is("the most WORTH of HABIT " + habit, most[habit], rich.worth(0));
        }
        due.promises(11, "WORTH. VOID: BAD.");
        for (int people : new int[] {0, 1, 8}) {
            for (int one : new int[] {-1, 0, people - 1, people, 8, Due.LEAST_INT, Due.MOST_INT}) {
                boolean there = one >= 0 && one < people;
                due.is("worth(" + one + ") of " + people, there ? 50 : Due.VOID, Due.crowd(people, 52).worth(one));
            }
        }
    }

    private static PassBill tied(int wh, int heard, int boast) {
        PassBill x = Due.with(wh);
        x.mend(0, 5, heard);
        x.mend(0, 10, boast);
        return x;
    }

    private static void best(String call, PassBill x, int habit, int worth) {
        due.is(call + ": which", habit, x.best(0, 0));
        due.is(call + ": that", worth, x.best(0, 1));
    }

    private static void bests() {
        due.says("WORTH is most (of like ones the least): which; that.");
        PassBill all = tied(3, 1, 0);
        all.mend(0, 7, 0);
        best("0, 1, 2, 3 alike", all, 0, 0);
        best("0, 2, 3 alike", tied(12, 1, 0), 0, 0);
        best("0, 1 alike", tied(1, 0, 0), 0, 0);
        best("1, 2 alike", tied(13, 0, 10), 1, 10);
        best("2, 3 alike", tied(53, 1, 0), 2, 40);
        best("2 by one more than 3", tied(53, 1, 1), 2, 41);
        best("1 by one more than 0", tied(0, 0, 1), 1, 1);
        best("2 by 10 more than 1", tied(20, 0, 5), 2, 15);
        best("0 as all else costs", tied(1, 1, 0), 0, 0);
        PassBill paid = tied(0, 1, 99);
        paid.mend(0, 7, 99);
        paid.mend(0, 9, 1);
        best("2 by half a SNOW", paid, 2, 50);
        PassBill drawn = tied(10, 1, 10);
        drawn.mend(0, 9, 1);
        best("1 costs a SHARE", drawn, 2, 10);
        due.says("the others as they are");
        PassBill said = Due.with(0, 51);
        Due.law(said, "o");
        best("by o, as the other one says it", said, 0, 0);
        PassBill unsaid = Due.with(0, 50);
        Due.law(unsaid, "o");
        best("by o, as the other one is silent", unsaid, 1, 10);
        due.promises(12, "BEST: which (what 0), that (1). VOID: BAD.");
        for (int what : new int[] {-1, 2, Due.LEAST_INT, Due.MOST_INT}) {
            due.is("best(0, " + what + ")", Due.VOID, Due.with(51).best(0, what));
        }
        for (int people : new int[] {0, 1, 8}) {
            for (int one : new int[] {-1, 0, people - 1, people, 8, Due.LEAST_INT, Due.MOST_INT}) {
                boolean there = one >= 0 && one < people;
                due.is("best(" + one + ", 0) of " + people, there ? 2 : Due.VOID, Due.crowd(people, 50).best(one, 0));
                due.is("best(" + one + ", 1) of " + people, there ? 50 : Due.VOID, Due.crowd(people, 50).best(one, 1));
            }
        }
    }

    private static void atRest() {
        due.says("AT REST: whether nobody would have more by another HABIT (1, 0).");
        due.is("nobody", 1, new PassBill().atRest());
        for (int habit = 0; habit <= 3; habit++) {
            due.is("HABIT " + habit + ", all alike", 1, alike(1, habit).atRest());
            due.is("HABIT " + habit + " of eight, all alike", 1, alike(8, habit).atRest());
            PassBill going = Due.with(50 + habit);
            due.is("HABIT " + habit + " of one who would go", habit == 2 ? 1 : 0, going.atRest());
            PassBill last = Due.crowd(8, 52);
            last.takes(7, habit);
            due.is("HABIT " + habit + " of the last of eight", habit == 2 ? 1 : 0, last.atRest());
        }
        PassBill byOne = tied(3, 1, 1);
        byOne.mend(0, 7, 0);
        due.is("HABIT 3, by one less than 2", 0, byOne.atRest());
        due.is("HABIT 3, alike with 2", 1, tied(53, 1, 0).atRest());
        due.is("HABIT 0, alike with 2 and 3", 1, tied(10, 1, 0).atRest());
        due.is("HABIT 3, to whom only 0 is more", 0, tied(3, 1, 0).atRest());
        due.is("HABIT 0, to whom only 1 is more", 0, tied(0, 0, 10).atRest());
        due.is("HABIT 1, to whom only 2 is more", 0, tied(21, 0, 0).atRest() + tied(21, 0, 10).atRest());
        due.is("HABIT 1, alike with 2", 1, tied(11, 0, 10).atRest());
    }

    /** No SNOW, no BOAST, no WISH: every HABIT is worth 0. */
    private static PassBill alike(int people, int habit) {
        PassBill x = Due.crowd(people, habit);
        x.mend(0, 7, 0);
        x.mend(0, 10, 0);
        return x;
    }

    private static void rests() {
        due.says("REST: rows of HABITS of all PEOPLE (4 at most, else STATE), at which all are AT REST");
        for (int people = 0; people <= 8; people++) {
            due.is("rest(-1) of " + people, people <= 4 ? 1 << 2 * people : Due.STATE, alike(people, 3).rest(-1));
            for (int k = 0; k < people; k++) {
                due.is("rest(" + k + ") of " + people, people <= 4 ? 0 : Due.STATE, alike(people, 3).rest(k));
            }
        }
        for (int people = 1; people <= 4; people++) {
            PassBill going = Due.crowd(people, 90);
            going.mend(0, 10, 0);
            due.is("rest(-1) of " + people + " to whom 2 and 3 are alike", 1 << people, going.rest(-1));
            due.is("rest(0)", 2, going.rest(0));
            PassBill saying = Due.crowd(people, 90);
            due.is("rest(-1) of " + people + " to whom 2 is best", 1, saying.rest(-1));
        }
        due.says("Nobody: one row of HABITS.");
        due.is("rest(-1) of nobody", 1, new PassBill().rest(-1));
        due.says("the k-th one's HABIT in the first of them (by HABITS of 0, 1 .. on, each the least first); NOT: there is none.");
        for (int people = 2; people <= 4; people++) {
            PassBill order = Due.crowd(people, 3);
            order.mend(0, 7, 99);
            order.mend(0, 10, 9);
            Due.law(order, "o");
            due.is("any says it alone", people, order.rest(-1));
            for (int k = 0; k < people; k++) {
                due.is("the last alone comes first: rest(" + k + ") of " + people, k == people - 1 ? 1 : 0, order.rest(k));
            }
        }
        due.promises(14, "BAD (no such k, too); NOT (k 0 on); STATE.");
        PassBill never = Due.with(0, 0);
        never.mend(0, 7, 99);
        never.mend(0, 10, 9);
        never.mend(1, 4, 1);
        Due.law(never, "k?o;!o");
        due.is("rest(-1): how many, 0", 0, never.rest(-1));
        due.is("rest(0): NOT", Due.NOT, never.rest(0));
        due.is("rest(1): NOT", Due.NOT, never.rest(1));
        due.is("rest(2): BAD ahead of NOT", Due.BAD, never.rest(2));
        for (int people = 0; people <= 8; people++) {
            for (int k : new int[] {-2, people, 8, Due.LEAST_INT, Due.MOST_INT}) {
                due.is("rest(" + k + ") of " + people, Due.BAD, Due.crowd(people, 51).rest(k));
            }
        }
    }

    private static void freeRates() {
        due.says("FREE RATE: the least RATE (1 .. 99) by which for all of HABIT 1, HEARD, WORTH of going (HABIT 2) is no less than of staying, the others as they are; NOT.");
        due.is("a SHARE as dear as going", 1, snowy(2, 50, 1, 1).freeRate());
        due.is("a SHARE by one too cheap, then as dear", 2, snowy(4, 50, 1, 1, 1).freeRate());
        PassBill most = snowy(2, 1, 1, 61, 61, 61, 61, 61, 61, 61);
        Due.law(most, "w?20;1");
        due.is("the most that there is: 2 by 71 by 141", 71, most.freeRate());
        most.mend(0, 4, 4);
        Due.law(most, "k?0;1");
        due.is("who counts nothing stays by 99, too", Due.NOT, most.freeRate());
        most.mend(0, 5, 0);
        due.is("who is not HEARD is not asked", 1, most.freeRate());
        most.mend(0, 5, 1);
        most.takes(0, 3);
        due.is("who does not say it is not asked", 1, most.freeRate());
        PassBill last = Due.crowd(8, 61);
        last.mend(7, 0, 0);
        last.mend(7, 4, 1);
        Due.law(last, "!k");
        due.is("the last of eight stays", Due.NOT, last.freeRate());
        PassBill even = snowy(20, 1, 11);
        Due.law(even, "0");
        due.is("going is worth no less", 1, even.freeRate());
        even.mend(0, 7, 22);
        due.is("going is worth one less", Due.NOT, even.freeRate());
        due.says("FREE RATE: none of HABIT 1, HEARD: 1.");
        due.is("nobody", 1, new PassBill().freeRate());
        due.is("0, 2, 3", 1, snowy(99, 50, 0, 2, 3).freeRate());
    }

    private static void pools() {
        due.says("what their SHARES are together by how many they are (up to a whole one)");
        int[][] alone = {{6, 2}, {7, 3}, {8, 3}, {9, 3}};
        for (int[] a : alone) {
            PassBill x = snowy(a[0], 1, 1, 0, 0);
            due.is("pool(7, 0) of " + a[0], a[0] - a[1], x.pool(7, 0));
            due.is("pool(7, 2) of " + a[0], -a[1], x.pool(7, 2));
        }
        due.is("none of them has a SHARE", 0, Due.with(51, 50, 50).pool(6, 1));
        due.is("alone with his SHARE", 0, Due.with(51, 50, 50).pool(1, 0));
        due.promises(16, "POOL (set: bits of PEOPLE, he among them): by how much less. VOID: BAD.");
        for (int people = 0; people <= 8; people++) {
            PassBill x = Due.crowd(people, 50);
            int all = (1 << people) - 1;
            int last = people - 1;
            due.is("all of " + people, people == 0 ? Due.VOID : 0, x.pool(all, last));
            due.is("one more than " + people, Due.VOID, x.pool(all + (1 << people), 0));
            due.is("the sign bit", Due.VOID, x.pool(Due.LEAST_INT | all, 0));
            due.is("all bits", Due.VOID, x.pool(-1, 0));
            due.is("no bits", Due.VOID, x.pool(0, 0));
            due.is("he is not among them", Due.VOID, x.pool(all & ~1, 0));
            due.is("one beyond", Due.VOID, x.pool(all, people));
            due.is("one below 0", Due.VOID, x.pool(all, -1));
            due.is("one by 32 beyond", Due.VOID, x.pool(all, 32));
            due.is("one far below", Due.VOID, x.pool(all, Due.LEAST_INT));
            due.is("one far beyond", Due.VOID, x.pool(all, Due.MOST_INT));
        }
    }

    private static void spared() {
        due.says("SPARED: which of PEOPLE (bits) pay less by the POOL of all who are ASSESSED.");
        due.is("all alike", 0, Due.crowd(8, 51).spared());
        due.is("all alike, and a cut", 0, Due.crowd(7, 51).spared());
        PassBill last = Due.crowd(8, 1);
        last.mend(7, 0, 9);
        due.is("the last of eight", 128, last.spared());
        PassBill first = Due.crowd(8, 91);
        first.mend(7, 0, 0);
        due.is("all but the last of eight", 127, first.spared());
        PassBill up = snowy(3, 1, 91, 1);
        Due.law(up, "w?2;1");
        due.is("2 and 1 are 2 each: nobody pays less", 0, up.spared());
        up.mend(0, 7, 6);
        due.is("4 and 2 are 3 each", 1, up.spared());
        PassBill zero = Due.with(91, 1, 31);
        Due.law(zero, "w/3");
        due.is("who is ASSESSED by 0 is not of the POOL", 1, zero.spared());
        zero.mend(2, 0, 6);
        due.is("who is ASSESSED by 0 does not make it cheaper", 1, zero.spared());
        due.is("nor does who is silent, or goes", 1, Due.with(91, 61, 50, 52, 53).spared());
        due.is("the first is not of the POOL", 2, Due.with(50, 91, 61).spared());
        due.says("SPARED: nobody ASSESSED (by more than 0): none.");
        due.is("nobody", 0, new PassBill().spared());
        due.is("none who stays and says", 0, Due.with(50, 52, 53).spared());
        PassBill none = Due.with(51, 91);
        Due.law(none, "0");
        due.is("all by 0", 0, none.spared());
    }

    public static void main(String[] args) {
        assessed();
        shares();
        worths();
        bests();
        atRest();
        rests();
        freeRates();
        pools();
        spared();
        due.end();
    }
}
