/** The edges that the document names of BODIES, acts, SHELVES and counts: promises 35 to 44. */
public final class PassBillEdgesShelves {
    private static final Due due = Due.byDocument();
    private static final int[] SHELVES_TRIED = {-1, 0, 5, 6, 7, Due.LEAST_INT, Due.MOST_INT};
    private static final int[] ABOVE = {-1, 0, 0, 2, 1, 3, 0, 6};

    private static boolean isShelf(int shelf) {
        return shelf >= 0 && shelf <= 5;
    }

    private static PassBill bodies(int... kinds) {
        PassBill x = new PassBill();
        for (int kind : kinds) {
            x.body(kind);
        }
        return x;
    }

    private static void body() {
        due.promises(35, "A BODY of a KIND (0 .. 7) is kept: its number. BAD, FULL.");
        for (int kind : new int[] {-1, 0, 1, 6, 7, 8, Due.LEAST_INT, Due.MOST_INT}) {
            PassBill x = new PassBill();
            boolean may = kind >= 0 && kind <= 7;
            due.is("body(" + kind + ")", may ? 0 : Due.BAD, x.body(kind));
            due.is("count(4)", may ? 1 : 0, x.count(4));
        }
        due.says("BODIES 0 .. 49 are kept by call");
        PassBill x = new PassBill();
        for (int number = 0; number <= 49; number++) {
            due.is("the next body", number, x.body(number % 8));
        }
        due.is("the 51st", Due.FULL, x.body(0));
        due.is("the 51st, of no KIND", Due.BAD, x.body(8));
        due.is("the 51st, of no KIND", Due.BAD, x.body(-1));
        due.is("count(4)", 50, x.count(4));
        due.is("act of 49, which is a BOAST", 7 + 49 + 3, x.act(49, 0, 7));
        due.is("act of 50", 0, x.act(50, 0, 7));
        due.is("keep(0, 49)", 1, x.keep(0, 49));
        due.is("taken(0, 1)", 1, x.taken(0, 1));
        due.is("keep(0, 50)", Due.BAD, x.keep(0, 50));
    }

    private static void act() {
        due.promises(36, "An ACT (0 .. 3) of a BODY with x. 0, and no TRACE then: no such BODY, ACT.");
        int[][] wrong = {{-1, 0}, {2, 0}, {50, 0}, {Due.LEAST_INT, 0}, {Due.MOST_INT, 0}, {1, -1}, {1, 4},
            {1, Due.LEAST_INT}, {1, Due.MOST_INT}, {-1, -1}, {2, 4}};
        for (int[] w : wrong) {
            PassBill x = bodies(0, 7);
            x.act(1, 3, 5);
            due.is("count(5) ahead of it", 8, x.count(5));
            due.is("act(" + w[0] + ", " + w[1] + ", 5)", 0, x.act(w[0], w[1], 5));
            due.is("count(5) then", 0, x.count(5));
            due.is("trace(0) then", Due.BAD, x.trace(0));
        }
        due.is("act of no BODIES", 0, new PassBill().act(0, 0, 5));
        due.says("ACTS with x (an int that wraps)");
        PassBill x = bodies(0, 1, 2, 3, 4, 5, 6, 7);
        int most = Due.MOST_INT;
        int least = Due.LEAST_INT;
        due.is("x + n beyond the most", least + 1, x.act(2, 0, most));
        due.is("says of BOAST beyond the most", least + 3, x.act(1, 0, most));
        due.is("says of NIGHT, twice the most", 2 * (most + 6), x.act(6, 0, most));
        due.is("says of STOCKING, twice the least", 2 * (least + 7) - 1, x.act(7, 0, least));
        due.is("counts of SAYING, twice the least", 0, x.act(0, 1, least));
        due.is("counts of SIGH, less the least", least, bodies(2).act(0, 1, 1 << 30));
        due.is("counts of SLEEP, x + 1 beyond the most", -2 * (least + 3), x.act(3, 1, most));
        due.is("goes of SAYING by the least", least, x.act(0, 2, least));
        due.is("goes of SLEEP, three times the least", (least ^ 3) * 3, x.act(3, 2, least));
        due.is("goes of DEAD below the least", (least ^ 5) * 3 - 7, x.act(5, 2, least));
        due.is("goes of SAYING by -1", -1, x.act(0, 2, -1));
        due.is("tells of POEM by the most", 2 * (most + 4 + 3) - (1 ^ 4) ^ 5, x.act(4, 3, most));
        due.is("tells of SAYING by the least", -1, x.act(0, 3, least));
    }

    private static void trace() {
        due.says("super: from the KIND above the body's on.");
        traced(0, 0, 1);
        traced(0, 1, 10, 1);
        traced(0, 2, 11);
        traced(0, 3, 2, 10, 1, 11);
        traced(1, 0, 20, 1);
        traced(1, 1, 10, 20, 1);
        traced(1, 2, 11);
        traced(1, 3, 2, 10, 20, 1, 11);
        traced(2, 0, 1);
        traced(2, 1, 30, 10, 1);
        traced(2, 2, 11);
        traced(2, 3, 2, 30, 10, 1, 11);
        traced(3, 0, 1);
        traced(3, 1, 41, 30, 10, 1);
        traced(3, 2, 40, 11);
        traced(3, 3, 2, 41, 30, 10, 1, 40, 11);
        traced(4, 0, 20, 1);
        traced(4, 1, 10, 20, 1);
        traced(4, 2, 11);
        traced(4, 3, 50, 2, 10, 20, 1, 11);
        traced(5, 0, 1);
        traced(5, 1, 41, 30, 10, 1);
        traced(5, 2, 60, 40, 11, 1);
        traced(5, 3, 61, 2, 41, 30, 10, 1, 60, 40, 11, 1);
        traced(6, 0, 70, 1);
        traced(6, 1, 10, 70, 1);
        traced(6, 2, 11);
        traced(6, 3, 2, 10, 70, 1, 11);
        traced(7, 0, 81, 70, 1);
        traced(7, 1, 80, 10, 81, 70, 1, 11);
        traced(7, 2, 11);
        traced(7, 3, 2, 80, 10, 81, 70, 1, 11, 11);
        due.promises(37, "THE TRACE's i-th body. BAD.");
        PassBill x = bodies(5, 0);
        due.is("trace(0) ahead of any act", Due.BAD, x.trace(0));
        x.act(0, 3, 1);
        due.is("trace(9)", 1, x.trace(9));
        for (int i : new int[] {-1, 10, 23, 24, 25, Due.LEAST_INT, Due.MOST_INT}) {
            due.is("trace(" + i + ")", Due.BAD, x.trace(i));
        }
        due.says("numbers of the bodies that ran in the latest act()");
        x.act(1, 0, 1);
        due.is("trace(0) of the latest", 1, x.trace(0));
        due.is("trace(1) of the latest", Due.BAD, x.trace(1));
        due.is("count(5) of the latest", 1, x.count(5));
    }

    /** Each ACT of each KIND, of BODY 3 with x 7: the bits of the two lie over one another. */
    private static void values() {
        due.says("SAYS (an interface of SAYING): 1 says: x + n. SAYING: 10 counts: says(x) * 2. 11 goes: x ^ n. TELLS (of SAYING): 2 tells: counts(x) - goes(1).");
        int[][] want = {
            {10, 20, 4, 18}, {13, 26, 4, 24}, {10, -20, 4, -22}, {10, -22, 12, -28}, {13, 26, 4, 24 ^ 5},
            {10, -22, 12 - 5, -22 - (2 * 3 - 5) + 1}, {20, 40, 4, 38}, {19, 38 + 1, 4, 39 - 2}};
        for (int kind = 0; kind <= 7; kind++) {
            for (int act = 0; act <= 3; act++) {
                PassBill x = bodies(0, 0, 0, kind);
                due.is("act(3, " + act + ", 7) of KIND " + kind, want[kind][act], x.act(3, act, 7));
            }
        }
    }

    private static void traced(int kind, int act, int... numbers) {
        PassBill x = bodies(kind);
        String call = "act " + act + " of KIND " + kind;
        x.act(0, act, 5);
        due.is("count(5) behind " + call, numbers.length, x.count(5));
        for (int i = 0; i < numbers.length; i++) {
            due.is("trace(" + i + ") behind " + call, numbers[i], x.trace(i));
        }
        due.is("trace beyond " + call, Due.BAD, x.trace(numbers.length));
    }

    private static void keep() {
        due.promises(38, "A SHELF holds nothing (body -1), or a BODY: 1. BAD.");
        for (int shelf : SHELVES_TRIED) {
            for (int body : new int[] {-2, -1, 0, 1, 2, 49, 50, Due.LEAST_INT, Due.MOST_INT}) {
                PassBill x = bodies(2, 3);
                boolean may = isShelf(shelf) && body >= -1 && body <= 1;
                String call = "keep(" + shelf + ", " + body + ")";
                due.is(call, may ? 1 : Due.BAD, x.keep(shelf, body));
                if (isShelf(shelf)) {
                    due.is("taken behind " + call, may && body >= 0 ? 2 + body : Due.NOTHING, x.taken(shelf, 2));
                }
            }
        }
        PassBill x = bodies(2);
        x.row(0, 0, 3);
        due.is("a BODY for a ROW", 1, x.keep(0, 0));
        due.is("put", Due.OTHER, x.put(0, 0, 1));
        due.is("nothing for a BODY", 1, x.keep(0, -1));
        due.is("put", Due.NOTHING, x.put(0, 0, 1));
        due.is("a BODY for what is not there", Due.BAD, new PassBill().keep(0, 0));
    }

    private static void row() {
        due.promises(39, "A SHELF holds a ROW: 1. BAD (sort, n above 60); -14.");
        for (int shelf : SHELVES_TRIED) {
            for (int sort : new int[] {-1, 0, 1, 2, 3, 4, 5, Due.LEAST_INT, Due.MOST_INT}) {
                for (int n : new int[] {-1, 0, 1, 59, 60, 61, Due.LEAST_INT, Due.MOST_INT}) {
                    PassBill x = new PassBill();
                    boolean bad = !isShelf(shelf) || sort < 0 || sort > 4 || n > 60;
                    String call = "row(" + shelf + ", " + sort + ", " + n + ")";
                    due.is(call, bad ? Due.BAD : n < 0 ? Due.BELOW : 1, x.row(shelf, sort, n));
                    if (isShelf(shelf)) {
                        boolean held = !bad && n >= 0;
                        due.is("the last place of " + call, held ? n > 0 ? 1 : Due.NO_PLACE : Due.NOTHING, x.put(shelf, held ? n - 1 : 0, 1));
                        due.is("beyond " + call, held ? Due.NO_PLACE : Due.NOTHING, x.put(shelf, held ? n : 0, 1));
                    }
                }
            }
        }
        due.says("of 0 .. 60 elements, 0 at first (false)");
        for (int sort = 0; sort <= 4; sort++) {
            PassBill x = new PassBill();
            for (int turn = 0; turn < 2; turn++) {
                x.row(0, sort, 60);
                for (int i = 0; i < 60; i++) {
                    due.is("element " + i + " of sort " + sort, 0, x.element(0, i));
                }
                x.put(0, 0, -1);
                x.put(0, 59, -1);
            }
            x.row(0, sort, 1);
            x.row(0, sort, 60);
            due.is("what lay behind a short ROW", 0, x.element(0, 59));
            x.put(0, 0, -1);
            x.keep(0, -1);
            x.row(0, sort, 1);
            due.is("what lay there ahead of nothing", 0, x.element(0, 0));
        }
    }

    private static void elements() {
        due.says("what is put in keeps its lowest bits (a boolean: whether it is not 0; 1 or 0)");
        long[] tried = {0, 1, -1, 127, 128, 255, 256, -128, -129, 32767, 32768, 65535, 65536, -32768, -32769,
            Due.MOST_INT, Due.MOST_INT + 1L, 0xFFFFFFFFL, 1L << 32, Due.LEAST_INT, Due.LEAST_INT - 1L, Long.MAX_VALUE, Long.MIN_VALUE};
        for (long v : tried) {
            long[] want = {(byte) v, (short) v, (int) v, v, v == 0 ? 0 : 1};
            for (int sort = 0; sort <= 4; sort++) {
                PassBill x = new PassBill();
                x.row(0, sort, 3);
                due.is("put(0, 1, " + v + ") of sort " + sort, 1, x.put(0, 1, v));
                due.is("element(0, 1) of " + v + ", sort " + sort, want[sort], x.element(0, 1));
                due.is("the one ahead", 0, x.element(0, 0));
                due.is("the one behind", 0, x.element(0, 2));
                x.put(0, 1, 0);
                due.is("0 again", 0, x.element(0, 1));
            }
        }
        due.promises(40, "Element i of a ROW becomes v: 1. BAD, -11, -12, -13.");
        for (int shelf : SHELVES_TRIED) {
            for (int i : new int[] {-1, 0, 2, 3, 59, 60, Due.LEAST_INT, Due.MOST_INT}) {
                boolean there = i >= 0 && i <= 2;
                String at = "(" + shelf + ", " + i + ")";
                PassBill x = bodies(0);
                due.is("put of nothing " + at, isShelf(shelf) ? Due.NOTHING : Due.BAD, x.put(shelf, i, 1));
                due.is("element of nothing " + at, Long.MIN_VALUE, x.element(shelf, i));
                x.keep(shelf, 0);
                due.is("put of a BODY " + at, isShelf(shelf) ? Due.OTHER : Due.BAD, x.put(shelf, i, 1));
                due.is("element of a BODY " + at, Long.MIN_VALUE, x.element(shelf, i));
                x.row(shelf, 2, 3);
                due.is("put " + at, isShelf(shelf) ? there ? 1 : Due.NO_PLACE : Due.BAD, x.put(shelf, i, 1));
                due.is("element " + at, isShelf(shelf) && there ? 1 : Long.MIN_VALUE, x.element(shelf, i));
            }
        }
        due.promises(41, "Element i of a ROW; Long.MIN_VALUE: BAD, -11 to -13.");
        PassBill x = new PassBill();
        Due.fill(x, 0, 3, Long.MIN_VALUE, 7);
        due.is("an element that is the least long", Long.MIN_VALUE, x.element(0, 0));
        due.is("the one behind", 7, x.element(0, 1));
        due.is("beyond", Long.MIN_VALUE, x.element(0, 2));
    }

    private static void shift() {
        due.promises(42, "n elements of a ROW from i on come to another one (or the same) from j on, as they all were before: n.");
        for (int size = 0; size <= 4; size++) {
            for (int other = 0; other <= 4; other++) {
                shifts(size, other);
            }
        }
        int[] far = {Due.LEAST_INT, -61, 61, Due.MOST_INT};
        for (int a : far) {
            due.is("i " + a, Due.NO_PLACE, rows(60, 60).shift(0, a, 1, 0, 1));
            due.is("j " + a, Due.NO_PLACE, rows(60, 60).shift(0, 0, 1, a, 1));
            due.is("n " + a, Due.NO_PLACE, rows(60, 60).shift(0, 0, 1, 0, a));
            due.is("i and n " + a, Due.NO_PLACE, rows(60, 60).shift(0, a, 1, 0, a));
            due.is("i 1, n " + a, Due.NO_PLACE, rows(60, 60).shift(0, 1, 1, 1, a));
            due.is("i " + a + ", n 0", Due.NO_PLACE, rows(60, 60).shift(0, a, 1, 0, 0));
        }
        due.is("all of 60", 60, rows(60, 60).shift(0, 0, 1, 0, 60));
        due.is("none of 60, at the ends", 0, rows(60, 60).shift(0, 60, 1, 60, 0));
        due.is("none of none", 0, rows(0, 0).shift(0, 0, 1, 0, 0));
        due.promises(42, "BAD, -11 (either), -12 (no ROWS, or of unlike sorts), -13.");
        refusedShifts();
    }

    /** SHELF 0 and SHELF 1 hold ROWS of ints: 10, 11 .. and 20, 21 .. */
    private static PassBill rows(int size, int other) {
        PassBill x = new PassBill();
        long[] first = new long[size];
        long[] second = new long[other];
        for (int i = 0; i < size; i++) {
            first[i] = 10 + i;
        }
        for (int j = 0; j < other; j++) {
            second[j] = 20 + j;
        }
        Due.fill(x, 0, 2, first);
        Due.fill(x, 1, 2, second);
        return x;
    }

    private static void shifts(int size, int other) {
        for (int i = -1; i <= size + 1; i++) {
            for (int j = -1; j <= other + 1; j++) {
                for (int n = -1; n <= 5; n++) {
                    shiftsTo(1, size, other, new int[] {i, j, n});
                    if (size == other) {
                        shiftsTo(0, size, size, new int[] {i, j, n});
                    }
                }
            }
        }
    }

    private static void shiftsTo(int shelf, int size, int other, int[] places) {
        int i = places[0];
        int j = places[1];
        int n = places[2];
        boolean may = i >= 0 && j >= 0 && n >= 0 && i + n <= size && j + n <= other;
        PassBill x = rows(size, other);
        String call = "shift(0, " + i + ", " + shelf + ", " + j + ", " + n + ") of " + size + ", " + other;
        due.is(call, may ? n : Due.NO_PLACE, x.shift(0, i, shelf, j, n));
        for (int k = 0; k < other; k++) {
            boolean moved = may && k >= j && k < j + n;
            due.is("element(" + shelf + ", " + k + ") behind " + call, moved ? 10 + i + k - j : (shelf == 0 ? 10 : 20) + k, x.element(shelf, k));
        }
        for (int k = 0; k < size && shelf == 1; k++) {
            due.is("element(0, " + k + ") behind " + call, 10 + k, x.element(0, k));
        }
    }

    /** What a SHELF holds by a number: 0 .. 4 a ROW of that sort, 5 a BODY, 6 nothing, 7 there is no such SHELF. */
    private static void refusedShifts() {
        for (int from = 0; from <= 7; from++) {
            for (int to = 0; to <= 7; to++) {
                for (int n : new int[] {0, 1, 3, 4, -1}) {
                    PassBill x = bodies(0);
                    hold(x, 0, from);
                    hold(x, 1, to);
                    int want = from == 7 || to == 7 ? Due.BAD : from == 6 || to == 6 ? Due.NOTHING
                        : from == 5 || from != to ? Due.OTHER : n < 0 || n > 3 ? Due.NO_PLACE : n;
                    String call = "shift of " + from + " to " + to + ", n " + n;
                    due.is(call, want, x.shift(from == 7 ? 6 : 0, 0, to == 7 ? -1 : 1, 0, n));
                    due.is(call + " from -1", want >= 0 ? Due.NO_PLACE : want, x.shift(from == 7 ? -1 : 0, -1, to == 7 ? 6 : 1, 0, n));
                    due.is(call + " to -1", want >= 0 ? Due.NO_PLACE : want, x.shift(from == 7 ? -1 : 0, 0, to == 7 ? 6 : 1, -1, n));
                }
            }
        }
    }

    private static void hold(PassBill x, int shelf, int what) {
        if (what <= 4) {
            x.row(shelf, what, 3);
        } else {
            x.keep(shelf, what == 5 ? 0 : -1);
        }
    }

    private static void taken() {
        due.promises(43, "What a SHELF holds, taken for a BODY of KIND k (0 .. 7), or under it: its KIND. BAD, -11, -12.");
        for (int kind = 0; kind <= 7; kind++) {
            for (int k = -1; k <= 8; k++) {
                PassBill x = bodies(kind);
                boolean may = k >= 0 && k <= 7;
                due.is("nothing taken for " + k, may ? Due.NOTHING : Due.BAD, x.taken(0, k));
                x.row(0, kind % 5, 8);
                due.is("a ROW taken for " + k, may ? Due.OTHER : Due.BAD, x.taken(0, k));
                x.keep(0, 0);
                due.is(kind + " taken for " + k, !may ? Due.BAD : isUnder(kind, k) ? kind : Due.OTHER, x.taken(0, k));
            }
        }
        for (int shelf : SHELVES_TRIED) {
            PassBill x = bodies(4);
            x.keep(shelf, 0);
            due.is("taken(" + shelf + ", 0)", isShelf(shelf) ? 4 : Due.BAD, x.taken(shelf, 0));
            due.is("taken(" + shelf + ", 7)", isShelf(shelf) ? Due.OTHER : Due.BAD, x.taken(shelf, 7));
            due.is("taken(" + shelf + ", 8)", Due.BAD, x.taken(shelf, 8));
            due.is("taken(" + shelf + ", least)", Due.BAD, x.taken(shelf, Due.LEAST_INT));
            due.is("taken(" + shelf + ", most)", Due.BAD, x.taken(shelf, Due.MOST_INT));
        }
    }

    private static boolean isUnder(int kind, int k) {
        for (int at = kind; at >= 0; at = ABOVE[at]) {
            if (at == k) {
                return true;
            }
        }
        return false;
    }

    private static void count() {
        due.promises(44, "How many: 0 PEOPLE, 1 ASSESSED, 2 bytes on THE TAPE, 3 changes that may be UNDONE, 4 BODIES, 5 bodies that ran in the latest act(). BAD.");
        for (int what : new int[] {-1, 6, 7, Due.LEAST_INT, Due.MOST_INT}) {
            due.is("count(" + what + ")", Due.BAD, Due.with(51).count(what));
        }
        for (int what = 0; what <= 5; what++) {
            due.is("count(" + what + ") of a new object", 0, new PassBill().count(what));
        }
        PassBill full = Due.crowd(8, 51);
        for (int k = 0; k < 121; k++) {
            full.feed(49);
            full.mend(0, 1, k);
            full.body(5);
        }
        full.act(0, 3, 1);
        int[] most = {8, 8, 120, 40, 50, 10};
        for (int what = 0; what <= 5; what++) {
            due.is("count(" + what + ") of a full one", most[what], full.count(what));
        }
        PassBill by0 = Due.with(51, 51, 50, 52, 53);
        due.is("ASSESSED", 2, by0.count(1));
        by0.hears(0, 0);
        due.is("ASSESSED, one is not HEARD", 1, by0.count(1));
        Due.law(by0, "0");
        due.is("ASSESSED by 0", 0, by0.count(1));
        Due.law(by0, "1");
        due.is("ASSESSED by 1", 1, by0.count(1));
    }

    public static void main(String[] args) {
        body();
        act();
        values();
        trace();
        keep();
        row();
        elements();
        shift();
        taken();
        count();
        due.end();
    }
}
