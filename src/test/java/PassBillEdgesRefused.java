import java.util.Arrays;

/** Which refusal is answered of several, that a refused call changes nothing, and that no call throws. */
public final class PassBillEdgesRefused {
    private static final Due due = Due.byDocument();

    interface Call {
        long on(PassBill x);
    }

    interface Maker {
        PassBill make();
    }

    /** Something of all there is, and room for more of it. */
    private static PassBill half() {
        PassBill x = Due.with(51, 31, 92);
        Due.law(x, "k=1?w;5-k+o");
        Due.feed(x, "g+1");
        x.mend(1, 4, 1);
        x.mend(0, 1, 300);
        x.mend(3, 7, 50);
        x.undo();
        x.takes(2, 3);
        x.hears(1, 0);
        x.year();
        x.image();
        x.year();
        x.gives(0, 1, 7);
        x.hears(1, 1);
        x.body(7);
        x.body(5);
        x.act(1, 3, 9);
        shelves(x);
        return x;
    }

    /** By number of a SHELF: bytes, shorts, ints, a BODY, nothing, booleans. */
    private static void shelves(PassBill x) {
        Due.fill(x, 0, 0, 5, 30, 1, 10, 0, 0);
        Due.fill(x, 1, 1, 0, 7, 1, 9, 2, 0);
        Due.fill(x, 2, 2, 1, 2, 3);
        x.keep(3, 1);
        x.row(5, 4, 3);
    }

    /** No room for one of PEOPLE, a byte, a BODY or a change more. */
    private static PassBill full() {
        PassBill x = Due.crowd(8, 51);
        for (int k = 0; k < 120; k++) {
            x.feed(k % 2 == 0 ? '1' : '+');
        }
        for (int k = 1; k <= 41; k++) {
            x.mend(k % 8, 1, k);
        }
        for (int k = 0; k < 50; k++) {
            x.body(k % 8);
        }
        x.mend(0, 1, 9999);
        shelves(x);
        return x;
    }

    /** All that can be seen of an object; what must be laid back or read to be seen comes last. */
    private static long[] seen(PassBill x) {
        long[] all = new long[300];
        int n = numbers(x, all, 0);
        for (int what = 0; what <= 5; what++) {
            all[n++] = x.count(what);
            all[n++] = x.led(what);
        }
        for (int one = 0; one < 8; one++) {
            all[n++] = x.share(one);
            all[n++] = x.counts(one);
        }
        for (int shelf = 0; shelf < 6; shelf++) {
            all[n++] = x.taken(shelf, 0);
            for (int i = 0; i <= 6; i++) {
                all[n++] = x.element(shelf, i);
            }
        }
        for (int i = 0; i <= 10; i++) {
            all[n++] = x.trace(i);
        }
        all[n++] = x.redo();
        all[n++] = x.undo();
        all[n++] = x.undo();
        all[n++] = x.back();
        n = numbers(x, all, n);
        all[n++] = x.law();
        all[n++] = x.counts(0);
        return Arrays.copyOf(all, n);
    }

    private static int numbers(PassBill x, long[] all, int from) {
        int n = from;
        for (int what = 0; what <= 10; what++) {
            for (int number = 0; number < (what <= 7 ? 8 : 1); number++) {
                all[n++] = x.of(number, what);
            }
        }
        return n;
    }

    private static void changesNothing(Maker maker, String call, long want, Call refused) {
        PassBill x = maker.make();
        due.is(call, want, refused.on(x));
        due.is("all is as ahead of " + call + " (1)", 1, Arrays.equals(seen(maker.make()), seen(x)) ? 1 : 0);
    }

    private static void halfRefused(String call, long want, Call refused) {
        changesNothing(PassBillEdgesRefused::half, call, want, refused);
    }

    private static void fullRefused(String call, long want, Call refused) {
        changesNothing(PassBillEdgesRefused::full, call, want, refused);
    }

    private static void refusedOfPeople() {
        halfRefused("person(54)", Due.BAD, x -> x.person(54));
        halfRefused("person(-1)", Due.BAD, x -> x.person(-1));
        fullRefused("person(51)", Due.FULL, x -> x.person(51));
        fullRefused("person(100)", Due.BAD, x -> x.person(100));
        halfRefused("people(6, 0, 1)", Due.BAD, x -> x.people(6, 0, 1));
        halfRefused("people(0, 0, 9)", Due.BAD, x -> x.people(0, 0, 9));
        halfRefused("people(1, 0, 1)", Due.OTHER, x -> x.people(1, 0, 1));
        halfRefused("people(3, 0, 1)", Due.OTHER, x -> x.people(3, 0, 1));
        halfRefused("people(4, 0, 1)", 0, x -> x.people(4, 0, 1));
        halfRefused("people(0, 3, 1)", 0, x -> x.people(0, 3, 1));
        halfRefused("people(0, 4, 1)", 0, x -> x.people(0, 4, 1));
        fullRefused("people(0, 0, 1)", 0, x -> x.people(0, 0, 1));
        for (int what = -1; what <= 11; what++) {
            int told = what;
            halfRefused("mend(0, " + what + ", -1)", Due.BAD, x -> x.mend(0, told, -1));
            halfRefused("mend(0, " + what + ", 10000)", Due.BAD, x -> x.mend(0, told, 10000));
            halfRefused("mend(8, " + what + ", 1)", Due.BAD, x -> x.mend(8, told, 1));
            halfRefused("of(8, " + what + ")", Due.BAD, x -> x.of(8, told));
        }
        halfRefused("feed(256)", Due.BAD, x -> x.feed(256));
        fullRefused("feed(49)", Due.FULL, x -> x.feed(49));
        fullRefused("feed(-1)", Due.BAD, x -> x.feed(-1));
        halfRefused("counts(3)", Due.BAD, x -> x.counts(3));
    }

    private static void refusedOfNow() {
        halfRefused("bill(2)", Due.BAD, x -> x.bill(2));
        halfRefused("share(3)", Due.BAD, x -> x.share(3));
        halfRefused("worth(3)", Due.VOID, x -> x.worth(3));
        halfRefused("best(3, 0)", Due.VOID, x -> x.best(3, 0));
        halfRefused("best(0, 2)", Due.VOID, x -> x.best(0, 2));
        halfRefused("rest(3)", Due.BAD, x -> x.rest(3));
        fullRefused("rest(-1)", Due.STATE, x -> x.rest(-1));
        fullRefused("rest(8)", Due.BAD, x -> x.rest(8));
        halfRefused("pool(9, 0)", Due.VOID, x -> x.pool(9, 0));
        halfRefused("pool(2, 0)", Due.VOID, x -> x.pool(2, 0));
        halfRefused("later(61, 0, 0)", Due.BAD, x -> x.later(61, 0, 0));
        halfRefused("later(1, 1, 2)", Due.BAD, x -> x.later(1, 1, 2));
        halfRefused("broke(3)", Due.BAD, x -> x.broke(3));
        halfRefused("broke(2)", Due.NOT, x -> x.broke(2));
        halfRefused("thrift(0, 41, 0)", Due.BAD, x -> x.thrift(0, 41, 0));
        halfRefused("judge(6)", Due.BAD, x -> x.judge(6));
        halfRefused("judge(4)", Due.NOTHING, x -> x.judge(4));
        halfRefused("judge(3)", Due.OTHER, x -> x.judge(3));
        halfRefused("fits(4, 3, 0)", Due.BAD, x -> x.fits(4, 3, 0));
        halfRefused("fits(4, 0, 0)", Due.NOTHING, x -> x.fits(4, 0, 0));
        halfRefused("fits(2, 0, 2)", Due.OTHER, x -> x.fits(2, 0, 2));
        halfRefused("fits(1, 0, 3)", Due.NOT, x -> x.fits(1, 0, 3));
        halfRefused("fits(1, 0, 5)", Due.NOT, x -> x.fits(1, 0, 5));
        halfRefused("said(3)", Due.BAD, x -> x.said(3));
        halfRefused("byTurns(0, 4, 0)", Due.BAD, x -> x.byTurns(0, 4, 0));
        halfRefused("drawn(1, 310100, 0)", Due.BAD, x -> x.drawn(1, 310100, 0));
        halfRefused("drawn(1, 10100, 3)", Due.BAD, x -> x.drawn(1, 10100, 3));
    }

    private static void refusedDeeds() {
        halfRefused("takes(3, 0)", Due.BAD, x -> x.takes(3, 0));
        halfRefused("takes(0, 4)", Due.BAD, x -> x.takes(0, 4));
        halfRefused("hears(3, 1)", Due.BAD, x -> x.hears(3, 1));
        halfRefused("hears(0, 2)", Due.BAD, x -> x.hears(0, 2));
        halfRefused("gives(0, 0, 1)", Due.BAD, x -> x.gives(0, 0, 1));
        halfRefused("gives(0, 1, 0)", Due.BAD, x -> x.gives(0, 1, 0));
        halfRefused("gives(0, 1, 10000)", Due.BAD, x -> x.gives(0, 1, 10000));
        halfRefused("gives(0, 1, 9999)", Due.STATE, x -> x.gives(0, 1, 9999));
        fullRefused("gives(1, 0, 1)", Due.STATE, x -> x.gives(1, 0, 1));
        fullRefused("gives(0, 0, 9999)", Due.BAD, x -> x.gives(0, 0, 9999));
        halfRefused("led(6)", Due.BAD, x -> x.led(6));
        fullRefused("back()", Due.STATE, x -> x.back());
        fullRefused("redo()", Due.STATE, x -> x.redo());
        changesNothing(PassBill::new, "undo()", Due.STATE, x -> x.undo());
        changesNothing(PassBill::new, "redo()", Due.STATE, x -> x.redo());
        changesNothing(PassBill::new, "back()", Due.STATE, x -> x.back());
    }

    private static void refusedShelves() {
        halfRefused("body(8)", Due.BAD, x -> x.body(8));
        fullRefused("body(7)", Due.FULL, x -> x.body(7));
        fullRefused("body(8)", Due.BAD, x -> x.body(8));
        halfRefused("trace(10)", Due.BAD, x -> x.trace(10));
        for (int shelf = 0; shelf < 6; shelf++) {
            int told = shelf;
            int put = shelf == 4 ? Due.NOTHING : shelf == 3 ? Due.OTHER : Due.NO_PLACE;
            halfRefused("keep(" + shelf + ", 2)", Due.BAD, x -> x.keep(told, 2));
            halfRefused("keep(" + shelf + ", -2)", Due.BAD, x -> x.keep(told, -2));
            halfRefused("row(" + shelf + ", 5, -1)", Due.BAD, x -> x.row(told, 5, -1));
            halfRefused("row(" + shelf + ", 0, 61)", Due.BAD, x -> x.row(told, 0, 61));
            halfRefused("row(" + shelf + ", 0, -1)", Due.BELOW, x -> x.row(told, 0, -1));
            halfRefused("put(" + shelf + ", -1, 9)", put, x -> x.put(told, -1, 9));
            halfRefused("put(" + shelf + ", 6, 9)", put, x -> x.put(told, 6, 9));
            halfRefused("element(" + shelf + ", 6)", Long.MIN_VALUE, x -> x.element(told, 6));
            halfRefused("shift to itself of " + shelf, put, x -> x.shift(told, 0, told, 1, 6));
            halfRefused("shift of " + shelf + " to nothing", Due.NOTHING, x -> x.shift(told, -1, 4, -1, 1));
            halfRefused("shift of nothing to " + shelf, Due.NOTHING, x -> x.shift(4, -1, told, -1, 1));
            halfRefused("shift of " + shelf + " to none", Due.BAD, x -> x.shift(told, -1, 6, 0, 1));
            halfRefused("shift of none to " + shelf, Due.BAD, x -> x.shift(-1, 0, told, 0, 1));
            halfRefused("shift of " + shelf + " to a BODY", shelf == 4 ? Due.NOTHING : Due.OTHER, x -> x.shift(told, -1, 3, 0, 1));
            halfRefused("taken(" + shelf + ", 8)", Due.BAD, x -> x.taken(told, 8));
            halfRefused("taken(" + shelf + ", 7)", shelf == 4 ? Due.NOTHING : Due.OTHER, x -> x.taken(told, 7));
        }
        halfRefused("row(6, 0, -1)", Due.BAD, x -> x.row(6, 0, -1));
        halfRefused("keep(6, 0)", Due.BAD, x -> x.keep(6, 0));
        halfRefused("put(6, -1, 1)", Due.BAD, x -> x.put(6, -1, 1));
        halfRefused("count(6)", Due.BAD, x -> x.count(6));
    }

    /** What only asks changes nothing, either, though it is not refused. */
    private static void asking() {
        String[] names = {"best", "atRest", "freeRate", "spared", "later", "broke", "thrift", "judge", "fits habits", "fits snows",
            "fits ears", "said", "byTurns", "drawn", "rest", "pool", "worth"};
        Call[] calls = {x -> x.best(0, 0), PassBill::atRest, PassBill::freeRate, PassBill::spared, x -> x.later(60, 0, 0),
            x -> x.broke(0), x -> x.thrift(0, 40, 0), x -> x.judge(1), x -> x.fits(1, 0, 0), x -> x.fits(1, 0, 2),
            x -> x.fits(1, 0, 4), x -> x.said(0), x -> x.byTurns(0, 3, 0), x -> x.drawn(1, 304012, 0), x -> x.rest(-1),
            x -> x.pool(7, 0), x -> x.worth(0)};
        long[] before = seen(half());
        long[] beforeFull = seen(full());
        for (int k = 0; k < calls.length; k++) {
            PassBill x = half();
            calls[k].on(x);
            due.is("all is as ahead of " + names[k] + " (1)", 1, Arrays.equals(before, seen(x)) ? 1 : 0);
            PassBill y = full();
            calls[k].on(y);
            due.is("all of a full one is as ahead of " + names[k] + " (1)", 1, Arrays.equals(beforeFull, seen(y)) ? 1 : 0);
        }
    }

    private static void ofSeveral() {
        due.says("Answers, of several the one named first: BAD (-1): no such number, or it is not as said; NOT (-2): as told; FULL (-3); STATE (-5): as told; -11 to -14.");
        due.is("BAD ahead of FULL: person", Due.BAD, full().person(4));
        due.is("BAD ahead of FULL: feed", Due.BAD, full().feed(256));
        due.is("BAD ahead of FULL: body", Due.BAD, full().body(-1));
        due.is("BAD ahead of STATE: rest", Due.BAD, full().rest(-2));
        due.is("BAD ahead of STATE: gives himself what he has not", Due.BAD, full().gives(1, 1, 9999));
        due.is("BAD ahead of STATE: gives 10000", Due.BAD, full().gives(1, 0, 10000));
        due.is("BAD ahead of STATE: gives one who is not there", Due.BAD, full().gives(1, 8, 9999));
        due.is("BAD ahead of -11: fits", Due.BAD, half().fits(4, 3, 1));
        due.is("BAD ahead of -11: taken", Due.BAD, half().taken(4, 8));
        due.is("BAD ahead of -11: shift", Due.BAD, half().shift(4, 0, 6, 0, 1));
        due.is("BAD ahead of -12: fits", Due.BAD, half().fits(3, 1, 5));
        due.is("BAD ahead of -12: taken", Due.BAD, half().taken(0, -1));
        due.is("BAD ahead of -12: people", Due.BAD, half().people(3, 0, 0));
        due.is("BAD ahead of -12: shift", Due.BAD, half().shift(-1, 0, 3, 0, 1));
        due.is("BAD ahead of -13: put", Due.BAD, half().put(6, 60, 1));
        due.is("BAD ahead of -13: shift", Due.BAD, half().shift(0, 7, 6, 0, 1));
        due.is("BAD ahead of -14: row, no SHELF", Due.BAD, half().row(-1, 0, -1));
        due.is("BAD ahead of -14: row, no sort", Due.BAD, half().row(0, -1, -1));
        due.is("-11 ahead of -12: shift", Due.NOTHING, half().shift(3, 0, 4, 0, 1));
        due.is("-11 ahead of -12: shift", Due.NOTHING, half().shift(4, 0, 3, 0, 1));
        due.is("-11 ahead of -13: put", Due.NOTHING, half().put(4, 60, 1));
        due.is("-11 ahead of -13: shift", Due.NOTHING, half().shift(0, 7, 4, 0, 1));
        due.is("-12 ahead of -13: put", Due.OTHER, half().put(3, 60, 1));
        due.is("-12 ahead of -13: shift of unlike sorts", Due.OTHER, half().shift(0, 7, 1, 0, 1));
        due.is("-12 ahead of -13: shift of BODIES", Due.OTHER, half().shift(3, 7, 3, 0, 1));
        due.says("VOID is -2000000000.");
        due.is("BAD", -1, PassBill.BAD);
        due.is("NOT", -2, PassBill.NOT);
        due.is("FULL", -3, PassBill.FULL);
        due.is("STATE", -5, PassBill.STATE);
        due.is("VOID", -2000000000, PassBill.VOID);
    }

    public static void main(String[] args) {
        ofSeveral();
        due.says("What is answered so changes nothing.");
        refusedOfPeople();
        refusedOfNow();
        refusedDeeds();
        refusedShelves();
        due.says("IN THOUGHT behind n (0 .. 60) years");
        asking();
        due.end();
    }
}
