/** The edges that the document names of deeds, of what is LED, of CHANGES and of AN IMAGE: promises 26 to 34. */
public final class PassBillEdgesDeeds {
    private static final Due due = Due.byDocument();
    private static final int PURSE = 1, HABIT = 3, HEARD = 5;

    private static void takes() {
        due.promises(26, "One takes a HABIT: what it was. BAD.");
        for (int habit : new int[] {-1, 0, 1, 2, 3, 4, Due.LEAST_INT, Due.MOST_INT}) {
            for (int was = 0; was <= 3; was++) {
                PassBill x = Due.with(50 + was);
                boolean may = habit >= 0 && habit <= 3;
                String call = "takes(0, " + habit + ") of " + was;
                due.is(call, may ? was : Due.BAD, x.takes(0, habit));
                due.is("HABIT behind " + call, may ? habit : was, x.of(0, HABIT));
                due.is("LED behind " + call, may ? 1 : 0, x.led(0));
            }
        }
        for (int people : new int[] {0, 1, 8}) {
            for (int one : new int[] {-1, 0, people - 1, people, 8, Due.LEAST_INT, Due.MOST_INT}) {
                PassBill x = Due.crowd(people, 51);
                boolean there = one >= 0 && one < people;
                due.is("takes(" + one + ", 2) of " + people, there ? 1 : Due.BAD, x.takes(one, 2));
                due.is("LED", there ? 1 : 0, x.led(0));
                for (int other = 0; other < people; other++) {
                    due.is("HABIT of " + other, other == one ? 2 : 1, x.of(other, HABIT));
                }
            }
        }
    }

    private static void hears() {
        due.promises(27, "The clerk hears one (how 1), or does not (0): what HEARD was. BAD.");
        for (int how : new int[] {-1, 0, 1, 2, Due.LEAST_INT, Due.MOST_INT}) {
            for (int was = 0; was <= 1; was++) {
                PassBill x = Due.with(51);
                x.mend(0, HEARD, was);
                boolean may = how == 0 || how == 1;
                String call = "hears(0, " + how + ") of " + was;
                due.is(call, may ? was : Due.BAD, x.hears(0, how));
                due.is("HEARD behind " + call, may ? how : was, x.of(0, HEARD));
            }
        }
        for (int people : new int[] {0, 1, 8}) {
            for (int one : new int[] {-1, 0, people - 1, people, 8, Due.LEAST_INT, Due.MOST_INT}) {
                PassBill x = Due.crowd(people, 51);
                boolean there = one >= 0 && one < people;
                due.is("hears(" + one + ", 0) of " + people, there ? 1 : Due.BAD, x.hears(one, 0));
                for (int other = 0; other < people; other++) {
                    due.is("HEARD of " + other, other == one ? 0 : 1, x.of(other, HEARD));
                }
            }
        }
        due.says("heard (told that he is)");
        PassBill x = Due.with(51);
        x.hears(0, 0);
        due.is("LED behind 0", 0, x.led(1));
        x.hears(0, 1);
        due.is("LED behind 1", 1, x.led(1));
        x.hears(0, 1);
        due.is("LED behind 1 again", 2, x.led(1));
        x.hears(0, 2);
        x.hears(1, 1);
        due.is("LED behind BAD", 2, x.led(1));
    }

    private static PassBill purses(int one, int other) {
        PassBill x = Due.with(50, 50);
        x.mend(0, PURSE, one);
        x.mend(1, PURSE, other);
        return x;
    }

    private static void given(PassBill x, int v, int want) {
        int one = x.of(0, PURSE);
        int other = x.of(1, PURSE);
        String call = "gives(0, 1, " + v + ") from " + one + " to " + other;
        due.is(call, want, x.gives(0, 1, v));
        due.is("PURSE behind " + call, want < 0 ? one : one - v, x.of(0, PURSE));
        due.is("the other one's behind " + call, want < 0 ? other : other + v, x.of(1, PURSE));
        due.is("LED behind " + call, want < 0 ? 0 : v, x.led(5));
    }

    private static void gives() {
        due.promises(29, "One gives another one v (1 .. 9999): his PURSE then.");
        for (int v : new int[] {-1, 0, 10000, Due.LEAST_INT, Due.MOST_INT}) {
            given(purses(9999, 0), v, Due.BAD);
            given(purses(0, 9999), v, Due.BAD);
        }
        given(purses(9999, 0), 1, 9998);
        given(purses(9999, 0), 9999, 0);
        due.promises(29, "BAD (himself, too);");
        PassBill x = purses(100, 9999);
        due.is("himself", Due.BAD, x.gives(0, 0, 1));
        due.is("himself, who would have above 9999", Due.BAD, x.gives(1, 1, 1));
        due.is("himself, who has not so much", Due.BAD, x.gives(0, 0, 101));
        for (int who : new int[] {-1, 2, 8, Due.LEAST_INT, Due.MOST_INT}) {
            due.is("gives(" + who + ", 1, 1)", Due.BAD, x.gives(who, 1, 1));
            due.is("gives(0, " + who + ", 200)", Due.BAD, x.gives(0, who, 200));
        }
        due.is("PURSE", 100, x.of(0, PURSE));
        due.is("LED", 0, x.led(5));
        PassBill crowd = Due.crowd(8, 50);
        due.is("the last of eight gives", 99, crowd.gives(7, 0, 1));
        due.is("the last of eight is given", 100, crowd.gives(0, 7, 1));
        due.is("nobody", Due.BAD, new PassBill().gives(0, 1, 1));
        due.promises(29, "STATE: he has not so much, or the other one would have above 9999.");
        given(purses(50, 0), 49, 1);
        given(purses(50, 0), 50, 0);
        given(purses(50, 0), 51, Due.STATE);
        given(purses(0, 0), 1, Due.STATE);
        given(purses(50, 9948), 50, 0);
        given(purses(50, 9949), 50, 0);
        given(purses(50, 9950), 50, Due.STATE);
        given(purses(9999, 9999), 1, Due.STATE);
        given(purses(9999, 9999), 9999, Due.STATE);
        given(purses(0, 9999), 9999, Due.STATE);
    }

    private static void led() {
        due.promises(30, "LED: habits taken (what 0), heard (1), years (2), paid (3), LACKING (4), given (5). BAD.");
        for (int what : new int[] {-1, 6, 7, Due.LEAST_INT, Due.MOST_INT}) {
            due.is("led(" + what + ")", Due.BAD, Due.with(51).led(what));
        }
        String[] deeds = {"takes", "hears", "year", "gives"};
        int[][] want = {{1, 0, 0, 0, 0, 0}, {0, 1, 0, 0, 0, 0}, {0, 0, 1, 200, 100, 0}, {0, 0, 0, 0, 0, 7}};
        for (int deed = 0; deed < 4; deed++) {
            PassBill x = Due.with(51, 50);
            if (deed == 0) {
                x.takes(0, 1);
            } else if (deed == 1) {
                x.hears(0, 1);
            } else if (deed == 2) {
                x.year();
            } else {
                x.gives(0, 1, 7);
            }
            for (int what = 0; what <= 5; what++) {
                due.is("led(" + what + ") behind " + deeds[deed], want[deed][what], x.led(what));
            }
        }
        due.is("mending is not LED", 0, mendedAll().led(0));
        due.is("mending is not LED", 0, mendedAll().led(1));
        due.is("mending is not LED", 0, mendedAll().led(2));
    }

    private static PassBill mendedAll() {
        PassBill x = Due.with(51);
        x.mend(0, HABIT, 2);
        x.mend(0, HEARD, 0);
        x.mend(0, HEARD, 1);
        x.mend(0, 8, 7);
        return x;
    }

    /** So many CHANGES: PURSE becomes 1, 2 .. */
    private static PassBill changed(int times) {
        PassBill x = Due.with(51);
        for (int v = 1; v <= times; v++) {
            x.mend(0, PURSE, v);
        }
        return x;
    }

    private static void undone() {
        due.promises(33, "UNDONE: how many may still be. STATE: none.");
        due.is("undo() of none", Due.STATE, new PassBill().undo());
        for (int times : new int[] {1, 2, 39, 40, 41, 42, 80}) {
            PassBill x = changed(times);
            int kept = Math.min(40, times);
            due.is("count(3) behind " + times, kept, x.count(3));
            for (int left = kept - 1; left >= 0; left--) {
                due.is("undo() behind " + times, left, x.undo());
                due.is("count(3)", left, x.count(3));
                int before = times - kept + left;
                due.is("PURSE", before == 0 ? 100 : before, x.of(0, PURSE));
            }
            due.is("undo() of no more", Due.STATE, x.undo());
            due.is("PURSE", times <= 40 ? 100 : times - 40, x.of(0, PURSE));
        }
        due.promises(34, "DONE AGAIN: how many may still be. STATE: none.");
        due.is("redo() of none", Due.STATE, new PassBill().redo());
        due.is("redo() of what is not UNDONE", Due.STATE, changed(3).redo());
        for (int times : new int[] {1, 2, 39, 40, 41}) {
            PassBill x = changed(times);
            int kept = Math.min(40, times);
            for (int k = 0; k < kept; k++) {
                x.undo();
            }
            for (int left = kept - 1; left >= 0; left--) {
                due.is("redo() behind " + times, left, x.redo());
                due.is("PURSE", times - left, x.of(0, PURSE));
                due.is("count(3)", kept - left, x.count(3));
            }
            due.is("redo() of no more", Due.STATE, x.redo());
            due.is("PURSE", times, x.of(0, PURSE));
        }
        due.says("40 at most are kept;");
        forgotten();
        PassBill x = changed(40);
        for (int k = 0; k < 40; k++) {
            x.undo();
        }
        x.redo();
        x.mend(0, PURSE, 500);
        due.is("a new one behind 39 that were UNDONE", 2, x.count(3));
        due.is("undo()", 1, x.undo());
        due.is("undo()", 0, x.undo());
        due.is("PURSE", 100, x.of(0, PURSE));
    }

    /** SNOW of the YEARS by turns, so that each change that is kept must know which number it was. */
    private static void forgotten() {
        for (int times : new int[] {40, 41, 47, 79}) {
            PassBill x = new PassBill();
            for (int k = 0; k < times; k++) {
                x.mend(k % 8, 7, 21 + k / 8);
            }
            for (int k = times - 1; k >= times - 40; k--) {
                x.undo();
                due.is("SNOW of " + k % 8 + " behind undo()", 20 + k / 8, x.of(k % 8, 7));
            }
            due.is("undo() of no more", Due.STATE, x.undo());
            for (int y = 0; y < 8; y++) {
                int told = Math.max(0, times - 40 - y + 7) / 8;
                due.is("SNOW of " + y + " by what is forgotten of " + times, 20 + told, x.of(y, 7));
            }
        }
    }

    private static void changes() {
        due.says("CHANGES (all numbers of mend(); telling the same number is none)");
        int[] first = {5, 100, 30, 1, 0, 1, 10, 20, 0, 10, 10};
        int[] other = {6, 101, 31, 2, 1, 0, 11, 21, 1, 11, 11};
        for (int what = 0; what <= 10; what++) {
            PassBill x = Due.with(51);
            x.mend(0, what, first[what]);
            due.is("count(3) behind the same number of " + what, 0, x.count(3));
            due.is("undo() behind the same number of " + what, Due.STATE, x.undo());
            x.mend(0, what, other[what]);
            due.is("count(3) behind another number of " + what, 1, x.count(3));
            due.is("undo() of " + what, 0, x.undo());
            due.is("of(0, " + what + ")", first[what], x.of(0, what));
            due.is("redo() of " + what, 0, x.redo());
            due.is("of(0, " + what + ")", other[what], x.of(0, what));
        }
        PassBill last = Due.crowd(8, 51);
        last.mend(7, 6, 99);
        last.mend(7, 7, 99);
        due.is("undo() of the last of YEARS", 1, last.undo());
        due.is("of(7, 7)", 20, last.of(7, 7));
        due.is("of(7, 6)", 99, last.of(7, 6));
        due.is("undo() of the last of PEOPLE", 0, last.undo());
        due.is("of(7, 6)", 10, last.of(7, 6));
        due.says("can be UNDONE, the latest first, and DONE AGAIN (as long as no other came behind)");
        PassBill x = changed(3);
        x.undo();
        x.undo();
        x.mend(0, PURSE, 1);
        due.is("the same number is no other", 1, x.redo());
        x.mend(0, PURSE, 10000);
        x.mend(1, PURSE, 5);
        due.is("what is refused is no other", 0, x.redo());
        due.is("PURSE", 3, x.of(0, PURSE));
        x.undo();
        x.mend(0, PURSE, 3);
        due.is("another one came, though of the like number", Due.STATE, x.redo());
        due.is("count(3)", 3, x.count(3));
        x.undo();
        x.mend(0, 0, 9);
        due.is("another one came, of another number", Due.STATE, x.redo());
        due.is("PURSE", 2, x.of(0, PURSE));
    }

    private static void deedsAreNone() {
        due.says("deeds are none (PURSE, AGE, HABIT, HEARD, YEAR by them, too)");
        String[] calls = {"takes", "hears", "year", "gives", "image", "back", "person", "law", "row"};
        for (int deed = 0; deed < calls.length; deed++) {
            PassBill x = Due.with(51, 50);
            does(x, deed);
            due.is("count(3) behind " + calls[deed], 0, x.count(3));
            due.is("undo() behind " + calls[deed], Due.STATE, x.undo());
            x.mend(0, 0, 6);
            x.mend(0, 0, 7);
            x.undo();
            does(x, deed);
            due.is("count(3) behind a change and " + calls[deed], 1, x.count(3));
            due.is("redo() behind a change and " + calls[deed], 0, x.redo());
            due.is("WISH", 7, x.of(0, 0));
        }
        PassBill x = Due.with(51, 50);
        x.mend(0, PURSE, 300);
        x.year();
        x.gives(1, 0, 1);
        due.is("PURSE by deeds", 111, x.of(0, PURSE));
        due.is("undo()", 0, x.undo());
        due.is("PURSE as it was ahead of the change", 100, x.of(0, PURSE));
        due.is("redo()", 0, x.redo());
        due.is("PURSE as the change told it", 300, x.of(0, PURSE));
        due.is("the YEAR stays ended", 1, x.of(0, 8));
        due.is("AGE stays", 31, x.of(0, 2));
    }

    private static void does(PassBill x, int deed) {
        switch (deed) {
            case 0 -> x.takes(0, 3);
            case 1 -> x.hears(0, 0);
            case 2 -> x.year();
            case 3 -> x.gives(0, 1, 1);
            case 4 -> x.image();
            case 5 -> {
                x.image();
                x.takes(0, 2);
                x.back();
            }
            case 6 -> x.person(51);
            case 7 -> Due.law(x, "1");
            default -> x.row(0, 0, 1);
        }
    }

    private static void images() {
        due.promises(31, "AN IMAGE is kept: years.");
        for (int years : new int[] {0, 1, 2, 201}) {
            PassBill x = Due.with(50);
            x.mend(0, 8, 5);
            for (int k = 0; k < years; k++) {
                x.year();
            }
            due.is("image() behind " + years, years, x.image());
            x.year();
            due.is("back() to " + years, years, x.back());
            due.is("LED years", years, x.led(2));
            due.is("YEAR", Math.min(199, 5 + years), x.of(0, 8));
        }
        due.promises(32, "STATE: there is none.");
        due.is("back() of none", Due.STATE, new PassBill().back());
        PassBill nobody = new PassBill();
        due.is("image() of nobody", 0, nobody.image());
        due.is("back() of nobody", 0, nobody.back());
        due.is("back() again", 0, nobody.back());
        due.says("AN IMAGE keeps PURSE, AGE, HABIT, HEARD of PEOPLE, YEAR, what LED tells.");
        int[] first = {5, 100, 30, 1, 0, 1, 10, 20, 0, 10, 10};
        int[] other = {6, 101, 31, 2, 1, 0, 11, 21, 1, 11, 11};
        for (int what = 0; what <= 10; what++) {
            boolean keeps = what == 1 || what == 2 || what == 3 || what == 5 || what == 8;
            PassBill x = Due.crowd(8, 51);
            int number = what <= 7 ? 7 : 0;
            x.image();
            x.mend(number, what, other[what]);
            x.back();
            due.is("of(" + number + ", " + what + ") laid back", keeps ? first[what] : other[what], x.of(number, what));
            due.is("the change may still be UNDONE", 1, x.count(3));
        }
        PassBill led = Due.with(51, 50);
        led.takes(0, 1);
        led.hears(0, 1);
        led.year();
        led.gives(1, 0, 3);
        led.image();
        led.takes(0, 1);
        led.hears(0, 1);
        led.year();
        led.gives(1, 0, 3);
        due.is("back()", 1, led.back());
        int[] want = {1, 1, 1, 200, 100, 3};
        for (int what = 0; what <= 5; what++) {
            due.is("led(" + what + ") laid back", want[what], led.led(what));
        }
        since();
    }

    private static void since() {
        due.promises(32, "It is laid back (PEOPLE that came since as they are): years.");
        for (int there = 0; there <= 7; there++) {
            PassBill x = Due.crowd(there, 51);
            x.image();
            for (int one = there; one < 8; one++) {
                x.person(92);
            }
            for (int one = 0; one < 8; one++) {
                x.mend(one, PURSE, 7);
                x.takes(one, 3);
                x.hears(one, 0);
            }
            due.is("back()", 0, x.back());
            due.is("count(0)", 8, x.count(0));
            for (int one = 0; one < 8; one++) {
                boolean was = one < there;
                due.is("PURSE of " + one + ", " + there + " were there", was ? 100 : 7, x.of(one, PURSE));
                due.is("HABIT of " + one + ", " + there + " were there", was ? 1 : 3, x.of(one, HABIT));
                due.is("HEARD of " + one + ", " + there + " were there", was ? 1 : 0, x.of(one, HEARD));
            }
        }
        PassBill x = Due.with(51);
        x.image();
        x.takes(0, 2);
        x.image();
        x.takes(0, 3);
        x.back();
        due.is("the latest IMAGE is the one", 2, x.of(0, HABIT));
        x.takes(0, 0);
        due.is("it stays to be laid back again", 0, x.back());
        due.is("HABIT", 2, x.of(0, HABIT));
    }

    public static void main(String[] args) {
        takes();
        hears();
        gives();
        led();
        undone();
        changes();
        deedsAreNone();
        images();
        due.end();
    }
}
