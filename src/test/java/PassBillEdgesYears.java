/** The edges that the document names of years in thought, by draws, and of how a YEAR ends: promises 18 to 20, 25, 28. */
public final class PassBillEdgesYears {
    private static final Due due = Due.byDocument();
    private static final int PURSE = 1, AGE = 2, EARNS = 6, SNOW = 7, YEAR = 8, RATE = 9;

    /** One of HABIT 1 who owes this SHARE (SNOW by RATE 1, so 99 at most). */
    private static PassBill owing(int purse, int share, int earns) {
        PassBill x = Due.with(51);
        x.mend(0, SNOW, share);
        x.mend(0, RATE, 1);
        x.mend(0, PURSE, purse);
        x.mend(0, EARNS, earns);
        return x;
    }

    private static PassBill going(int purse, int snow, int earns) {
        PassBill x = Due.with(53);
        x.mend(0, SNOW, snow);
        x.mend(0, PURSE, purse);
        x.mend(0, EARNS, earns);
        return x;
    }

    private static void ends(String call, PassBill x, int purse, int paid, int lacking) {
        due.is(call + ": PURSE in thought", purse, x.later(1, 0, 0));
        due.is(call + ": paid in thought", paid, x.later(1, 0, 2));
        due.is(call + ": LACKING in thought", lacking, x.later(1, 0, 3));
        due.is(call + ": year()", paid, x.year());
        due.is(call + ": PURSE", purse, x.of(0, PURSE));
        due.is(call + ": LED paid", paid, x.led(3));
        due.is(call + ": LED LACKING", lacking, x.led(4));
    }

    private static void yearEnds() {
        due.says("A YEAR ends: PURSE of each is less his SHARE, less what going costs, if he goes (0 at least: what lacks is LACKING)");
        ends("a SHARE of one less", owing(51, 50, 0), 1, 50, 0);
        ends("a SHARE of all", owing(50, 50, 0), 0, 50, 0);
        ends("a SHARE of one more", owing(49, 50, 0), 0, 50, 1);
        ends("a SHARE of an empty PURSE", owing(0, 99, 0), 0, 99, 99);
        ends("a SHARE of 0", owing(7, 0, 0), 7, 0, 0);
        ends("going for one less", going(26, 50, 0), 1, 0, 0);
        ends("going for all", going(25, 50, 0), 0, 0, 0);
        ends("going for one more", going(24, 50, 0), 0, 0, 1);
        ends("going by an empty PURSE", going(0, 99, 0), 0, 0, 49);
        PassBill most = Due.with(51);
        most.mend(0, SNOW, 99);
        most.mend(0, RATE, 99);
        most.mend(0, PURSE, 0);
        most.mend(0, EARNS, 0);
        ends("the most that lacks", most, 0, 9801, 9801);
        due.says("then more by EARNS (9999 at most)");
        ends("to 9998", owing(9900, 1, 99), 9998, 1, 0);
        ends("to 9999", owing(9901, 1, 99), 9999, 1, 0);
        ends("by one beyond", owing(9902, 1, 99), 9999, 1, 0);
        ends("from 9999", owing(9999, 0, 99), 9999, 0, 0);
        ends("from 9999 by 0", owing(9999, 0, 0), 9999, 0, 0);
        ends("what lacks is not earned back", owing(0, 50, 99), 99, 50, 50);
        due.says("AGE one more (99 stays); YEAR one more (199 stays).");
        int[][] ages = {{0, 1}, {97, 98}, {98, 99}, {99, 99}};
        for (int[] a : ages) {
            PassBill x = Due.with(50);
            x.mend(0, AGE, a[0]);
            due.is("AGE in thought behind " + a[0], a[1], x.later(1, 0, 1));
            x.year();
            due.is("AGE behind " + a[0], a[1], x.of(0, AGE));
        }
        int[][] years = {{0, 1}, {7, 8}, {198, 199}, {199, 199}};
        for (int[] y : years) {
            PassBill x = Due.with(50);
            for (int k = 0; k < 8; k++) {
                x.mend(k, SNOW, k);
            }
            x.mend(0, YEAR, y[0]);
            due.is("THE BILL in thought behind " + y[0], y[1] % 8 * 10, x.later(1, 0, 4));
            x.year();
            due.is("YEAR behind " + y[0], y[1], x.of(0, YEAR));
            due.is("THE BILL behind " + y[0], y[1] % 8 * 10, x.bill(0));
            due.is("LED years behind " + y[0], 1, x.led(2));
        }
        due.says("A YEAR's SHARES by AGE, SNOW as it begins.");
        PassBill age = Due.with(51);
        Due.law(age, "a=30");
        due.is("a SHARE by AGE 30", 200, age.year());
        due.is("none by AGE 31", 0, age.year());
        PassBill snow = Due.with(51);
        snow.mend(1, SNOW, 3);
        Due.law(snow, "s=20");
        due.is("a SHARE by SNOW 20", 200, snow.year());
        due.is("none by SNOW 3", 0, snow.year());
        due.says("Without PEOPLE years pass.");
        PassBill nobody = new PassBill();
        nobody.mend(1, SNOW, 7);
        due.is("THE BILL in thought", 70, nobody.later(1, 0, 4));
        due.is("paid in thought", 0, nobody.later(60, 0, 2));
        due.is("LACKING in thought", 0, nobody.later(60, 0, 3));
        due.is("year()", 0, nobody.year());
        due.is("YEAR", 1, nobody.of(0, YEAR));
        due.is("LED years", 1, nobody.led(2));
        due.is("drawn", 0, nobody.drawn(5, 304012, -1));
        due.promises(28, "A YEAR ends: what is paid in SHARES.");
        due.is("by one who lacks it", 200, Due.with(51).year());
        due.is("by seven, cut", 196, Due.crowd(7, 51).year());
        due.is("by none", 0, Due.with(50, 52, 53).year());
    }

    private static void later() {
        due.says("IN THOUGHT behind n (0 .. 60) years, HABITS as they are");
        PassBill x = Due.with(50, 51);
        x.mend(4, SNOW, 30);
        int[] none = {100, 30, 0, 0, 200};
        for (int what = 0; what <= 4; what++) {
            due.is("later(0, 0, " + what + ")", none[what], x.later(0, 0, what));
            for (int n : new int[] {-1, 61, Due.LEAST_INT, Due.MOST_INT}) {
                due.is("later(" + n + ", 0, " + what + ")", Due.BAD, x.later(n, 0, what));
            }
        }
        int snows = 0;
        for (int year = 0; year < 60; year++) {
            snows += year % 8 == 4 ? 300 : 200;
        }
        int[] sixty = {700, 90, snows, snows - 100 - 59 * 10, 300};
        for (int what = 0; what <= 4; what++) {
            due.is("later(60, 0, " + what + ")", sixty[what], x.later(60, 0, what));
        }
        due.is("nothing of it in deed", 0, x.of(0, YEAR));
        due.says("what all SHARES are, all together (LACKING or not)");
        PassBill poor = Due.with(51, 51);
        poor.mend(0, PURSE, 0);
        poor.mend(1, PURSE, 0);
        due.is("paid by two who have nothing", 200, poor.later(1, 0, 2));
        due.is("LACKING of both", 200, poor.later(1, 0, 3));
        due.promises(18, "PURSE (what 0), AGE (1) of one, paid (2), LACKING (3), THE BILL (4) (one 0 for 2 to 4). BAD.");
        for (int what : new int[] {-1, 5, 6, Due.LEAST_INT, Due.MOST_INT}) {
            due.is("later(1, 0, " + what + ")", Due.BAD, x.later(1, 0, what));
        }
        for (int people : new int[] {0, 1, 8}) {
            PassBill y = Due.crowd(people, 50);
            for (int one : new int[] {-1, 0, people - 1, people, 8, Due.LEAST_INT, Due.MOST_INT}) {
                boolean there = one >= 0 && one < people;
                due.is("PURSE of " + one, there ? 110 : Due.BAD, y.later(1, one, 0));
                due.is("AGE of " + one, there ? 31 : Due.BAD, y.later(1, one, 1));
                due.is("paid, one " + one, one == 0 ? 0 : Due.BAD, y.later(1, one, 2));
                due.is("LACKING, one " + one, one == 0 ? 0 : Due.BAD, y.later(1, one, 3));
                due.is("THE BILL, one " + one, one == 0 ? 200 : Due.BAD, y.later(1, one, 4));
            }
        }
    }

    private static void broke() {
        due.says("BROKE: behind how many years (0 .. 60) PURSE of one is first 0; NOT.");
        int[][] purses = {{0, 0}, {1, 1}, {10, 1}, {11, 2}, {590, 59}, {591, 60}, {600, 60}, {601, Due.NOT}, {9999, Due.NOT}};
        for (int[] p : purses) {
            due.is("broke(0) of " + p[0], p[1], going(p[0], 20, 0).broke(0));
        }
        due.is("first, not last", 0, going(0, 20, 10).broke(0));
        due.is("0 ahead of EARNS is not 0", Due.NOT, going(10, 20, 1).broke(0));
        due.promises(19, "BROKE. BAD; NOT.");
        for (int people : new int[] {0, 1, 8}) {
            PassBill y = Due.crowd(people, 50);
            for (int one : new int[] {-1, 0, people - 1, people, 8, Due.LEAST_INT, Due.MOST_INT}) {
                due.is("broke(" + one + ") of " + people, one >= 0 && one < people ? Due.NOT : Due.BAD, y.broke(one));
            }
        }
    }

    private static void thrift() {
        due.says("THRIFT: by which HABIT of his from now on PURSE is most behind n (0 .. 40) years (of like ones the least): which; that.");
        for (int habit = 0; habit <= 3; habit++) {
            PassBill x = Due.with(50 + habit);
            due.is("which, behind 0", 0, x.thrift(0, 0, 0));
            due.is("that, behind 0", 100, x.thrift(0, 0, 1));
            due.is("which, behind 1", 0, x.thrift(0, 1, 0));
            due.is("that, behind 1", 110, x.thrift(0, 1, 1));
            due.is("which, behind 40", 0, x.thrift(0, 40, 0));
            due.is("that, behind 40", 500, x.thrift(0, 40, 1));
            for (int n : new int[] {-1, 41, 60, Due.LEAST_INT, Due.MOST_INT}) {
                due.is("which, behind " + n, Due.BAD, x.thrift(0, n, 0));
                due.is("that, behind " + n, Due.BAD, x.thrift(0, n, 1));
            }
            due.is("HABIT", habit, x.of(0, 3));
        }
        PassBill full = going(9999, 20, 99);
        due.is("all alike at 9999: which", 0, full.thrift(0, 40, 0));
        due.is("all alike at 9999: that", 9999, full.thrift(0, 40, 1));
        due.promises(20, "THRIFT: which (what 0), that (1). BAD.");
        for (int what : new int[] {-1, 2, Due.LEAST_INT, Due.MOST_INT}) {
            due.is("what " + what, Due.BAD, Due.with(50).thrift(0, 1, what));
        }
        for (int people : new int[] {0, 1, 8}) {
            PassBill y = Due.crowd(people, 50);
            for (int one : new int[] {-1, 0, people - 1, people, 8, Due.LEAST_INT, Due.MOST_INT}) {
                boolean there = one >= 0 && one < people;
                due.is("which of " + one + ", " + people, there ? 0 : Due.BAD, y.thrift(one, 1, 0));
                due.is("that of " + one + ", " + people, there ? 110 : Due.BAD, y.thrift(one, 1, 1));
            }
        }
    }

    /** z behind a SEED, worked out in longs. */
    private static long draw(long z) {
        return (z * 1103515245L + 12345L) & 0xFFFFFFFFL;
    }

    /** The first SEED from a number on whose first z (as an unsigned int) is so. */
    private static int seedBy(int from, Wanted wanted) {
        for (int seed = from; seed < from + 10000000; seed++) {
            if (wanted.isSo(draw(seed))) {
                return seed;
            }
        }
        throw new IllegalStateException("no such SEED");
    }

    interface Wanted {
        boolean isSo(long z);
    }

    private static long snowOf(long z) {
        return (z >> 8) % 100;
    }

    private static long habitOf(long z) {
        return (z >> 20) % 4;
    }

    private static long moodOf(long z) {
        return (z >> 24) % 12;
    }

    private static void drawnNumbers() {
        due.says("DRAWN: n lives (1 .. 30) of m years (1 .. 40) from now by a SEED");
        int[] lives = {0, 1, 2, 29, 30, 31, 99};
        int[] lived = {0, 1, 2, 39, 40, 41, 99};
        for (int n : lives) {
            for (int m : lived) {
                boolean may = n >= 1 && n <= 30 && m >= 1 && m <= 40;
                int nmm = 10000 * n + 100 * m;
                due.is("PURSE by " + nmm, may ? n * (100 + 10 * m) : Due.BAD, Due.with(50).drawn(9, nmm, 0));
                due.is("paid by " + nmm, may ? 0 : Due.BAD, Due.with(50).drawn(9, nmm, -1));
            }
        }
        due.says("if (z >>> 24) % 12 is below MOODS (0 .. 12, told)");
        for (int moods : new int[] {0, 1, 11, 12, 13, 14, 50, 99}) {
            due.is("MOODS " + moods, moods <= 12 ? 0 : Due.BAD, new PassBill().drawn(9, 10100 + moods, -1));
        }
        due.promises(25, "DRAWN (nmm: 10000 n, 100 m, and MOODS): paid (one -1), PURSE of one. BAD.");
        for (int nmm : new int[] {-1, 0, 99, 100, 9999, 10000, 10099, -10100, -10101, 400100, 1010100, Due.LEAST_INT, Due.MOST_INT}) {
            due.is("nmm " + nmm, Due.BAD, Due.with(50).drawn(9, nmm, -1));
        }
        for (int people : new int[] {0, 1, 8}) {
            PassBill y = Due.crowd(people, 50);
            for (int one : new int[] {-2, -1, 0, people - 1, people, 8, Due.LEAST_INT, Due.MOST_INT}) {
                long want = one == -1 ? 0 : one >= 0 && one < people ? 110 : Due.BAD;
                due.is("drawn(9, 10100, " + one + ") of " + people, want, y.drawn(9, 10100, one));
            }
        }
    }

    private static void drawnYears() {
        due.says("z = z * 1103515245 + 12345 (an int; SEED at first) ahead of each year: SNOW is (z >>> 8) % 100 then;");
        for (int seed : new int[] {0, 1, -1, 7, 123456789, -123456789, Due.LEAST_INT, Due.MOST_INT}) {
            long z = seed;
            long paid = 0;
            for (int year = 0; year < 6; year++) {
                z = draw(z);
                paid += 10 * snowOf(z);
                if (year == 0) {
                    due.is("the first SNOW of SEED " + seed, paid, Due.with(51).drawn(seed, 10100, -1));
                }
            }
            due.is("one life of six years by " + seed, paid, Due.with(51).drawn(seed, 10600, -1));
            due.is("three lives of two years by " + seed, paid, Due.with(51).drawn(seed, 30200, -1));
            due.is("six lives of one year by " + seed, paid, Due.with(51).drawn(seed, 60100, -1));
        }
        int high = seedBy(1, z -> z > Due.MOST_INT && snowOf(z) == 99);
        due.is("SNOW 99", 990, Due.with(51).drawn(high, 10100, -1));
        int none = seedBy(1, z -> z > Due.MOST_INT && snowOf(z) == 0);
        due.is("SNOW 0", 0, Due.with(51).drawn(none, 10100, -1));
        due.says("one, (z >>> 16) % how many, takes HABIT (z >>> 20) % 4 from then on");
        for (int people = 1; people <= 8; people++) {
            for (int who = 0; who < people; who++) {
                int picked = who;
                int many = people;
                int seed = seedBy(1, z -> (z >> 16) % many == picked && habitOf(z) == 1 && snowOf(z) > 0);
                long owed = 10 * snowOf(draw(seed));
                for (int one = 0; one < people; one++) {
                    long want = 10 + (one == who ? Math.max(0, 100 - owed) : 100);
                    due.is("PURSE of " + one + " as " + who + " takes HABIT 1", want, Due.crowd(people, 50).drawn(seed, 10112, one));
                }
            }
        }
        for (int habit = 0; habit <= 3; habit++) {
            int taken = habit;
            int seed = seedBy(1, z -> habitOf(z) == taken && snowOf(z) >= 10);
            long snow = snowOf(draw(seed));
            long cost = taken == 1 ? Math.min(100, 10 * snow) : taken == 0 ? 0 : snow / 2;
            due.is("PURSE of who takes HABIT " + habit, 110 - cost, Due.with(50).drawn(seed, 10112, 0));
        }
        drawnMoods();
    }

    private static void drawnMoods() {
        due.says("if (z >>> 24) % 12 is below MOODS (0 .. 12, told)");
        for (int mood = 0; mood < 12; mood++) {
            int drawn = mood;
            int seed = seedBy(1, z -> moodOf(z) == drawn && habitOf(z) == 1 && snowOf(z) > 0);
            long owed = 10 * snowOf(draw(seed));
            for (int moods = 0; moods <= 12; moods++) {
                due.is("(z >>> 24) % 12 is " + mood + ", MOODS " + moods, mood < moods ? owed : 0, Due.with(50).drawn(seed, 10100 + moods, -1));
            }
        }
        due.says("from then on");
        int seed = seedBy(1, z -> moodOf(z) == 0 && habitOf(z) == 1 && moodOf(draw(z)) > 0 && snowOf(z) > 0 && snowOf(draw(z)) > 0);
        long first = 10 * snowOf(draw(seed));
        long second = 10 * snowOf(draw(draw(seed)));
        due.is("he pays in the second year, too", first + second, Due.with(50).drawn(seed, 10201, -1));
        due.is("but not in the second life", first, Due.with(50).drawn(seed, 20101, -1));
        PassBill x = Due.with(50);
        x.drawn(seed, 304012, 0);
        due.is("HABIT in deed", 0, x.of(0, 3));
        due.is("SNOW in deed", 20, x.of(0, SNOW));
        due.is("PURSE in deed", 100, x.of(0, PURSE));
        due.is("LED years", 0, x.led(2));
        due.says("PURSE of a told one at the ends, all together.");
        PassBill rich = Due.with(50);
        rich.mend(0, PURSE, 9999);
        due.is("30 lives of one who has 9999", 30 * 9999, rich.drawn(3, 304000, 0));
        PassBill owes = Due.with(51);
        owes.mend(0, RATE, 99);
        owes.mend(0, EARNS, 0);
        owes.mend(0, PURSE, 0);
        long z = -7;
        long paid = 0;
        for (int year = 0; year < 1200; year++) {
            z = draw(z);
            paid += 99 * snowOf(z);
        }
        due.is("30 lives of 40 years, all that is paid", paid, owes.drawn(-7, 304000, -1));
        due.is("30 lives of 40 years, an empty PURSE", 0, owes.drawn(-7, 304000, 0));
        due.is("THE YEAR stays at 199 in them, too", paid, atEnd(owes).drawn(-7, 304000, -1));
    }

    private static PassBill atEnd(PassBill x) {
        x.mend(0, YEAR, 199);
        return x;
    }

    public static void main(String[] args) {
        yearEnds();
        later();
        broke();
        thrift();
        drawnNumbers();
        drawnYears();
        due.end();
    }
}
