/** A pass that is free to all who cross: those who said that they would come, and did not, pay for its snow. */
public final class PassBill {
    public static final int BAD = -1, NOT = -2, FULL = -3, STATE = -5, VOID = -2000000000;

    private static final int NOTHING_THERE = -11, OTHER_KIND = -12, NO_PLACE = -13, SIZE_BELOW = -14;
    private static final int FAULT_AT = -100;

    private static final int WISH = 0, PURSE = 1, AGE = 2, HABIT = 3, KIND = 4, HEARD = 5, EARNS = 6;
    private static final int SNOW = 7, YEAR = 8, RATE = 9, BOAST = 10;
    /** By number of mend(): the least, the most, and what it is at first. */
    private static final int[] LEAST = {0, 0, 0, 0, 0, 0, 0, 0, 0, 1, 0};
    private static final int[] MOST = {9, 9999, 99, 3, 4, 1, 99, 99, 199, 99, 99};
    private static final int[] FIRST = {5, 100, 30, 0, 0, 1, 10, 20, 0, 10, 10};

    private static final int SILENT = 0, STAYS = 1, GOES = 2, HABITS = 4;
    private static final int MOST_PEOPLE = 8, YEARS = 8, MOST_COUNTED = 20;
    /** Where in a World's cells those behind the numbers of one stand. */
    private static final int SNOW_AT = 56, YEAR_AT = 64, CELLS = 67;
    private static final int MOST_RESTING = 4, REST_ROWS = 256;
    private static final int NOBODY = 8, MOST_TURNS = 3;
    private static final int MOST_THOUGHT = 60, MOST_THRIFT = 40;
    private static final int MOST_LIVES = 30, MOST_LIVED = 40, MOST_MOODS = 12;
    private static final int MOST_TWOS = 20, SNOWS = 100;
    private static final int LED_TAKEN = 0, LED_HEARD = 1, LED_YEARS = 2, LED_PAID = 3, LED_LACKING = 4, LED_GIVEN = 5;
    private static final int LED_ALL = 6, MOST_CHANGES = 40;

    private static final int MOST_TAPE = 120, MOST_CODE = 128, MOST_BYTE = 255, MOST_DIGITS = 4, MOST_OPEN = 6;
    private static final int NAMES = 6, NUMBER = 1000, MINUS = '~', END = ';';
    private static final int COMPARING = 2, OPERAND = 5;

    private static final int KINDS = 8, ACTS = 4, MOST_BODIES = 50, MOST_TRACE = 24, DEEPEST_ACT = 40;
    private static final int TO_SAY = 0, TO_COUNT = 1, TO_GO = 2, TO_TELL = 3;
    private static final int[] ABOVE = {-1, 0, 0, 2, 1, 3, 0, 6};
    /** By KIND and ACT: the number of the body that the KIND has of its own; 0: none. */
    private static final int[] OWN = {
        1, 10, 11, 2, 20, 0, 0, 0, 0, 30, 0, 0, 0, 41, 40, 0,
        0, 0, 0, 50, 0, 0, 60, 61, 70, 0, 0, 0, 81, 80, 0, 0};

    private static final int SHELVES = 6, MOST_ELEMENTS = 60;
    private static final int BYTES = 0, SHORTS = 1, INTS = 2, BOOLEANS = 4, HOLDS_NOTHING = -1, HOLDS_BODY = 5;

    private final World now = new World();
    /** What would be is tried out on this one, so that no call makes a new one. */
    private final World thought = new World();
    private final Reckoner reckoner = new Reckoner();
    private final Reader reader = new Reader();
    private final Changes changes = new Changes();
    private final int[] ledger = new int[LED_ALL];
    private final World kept = new World();
    private final int[] keptLedger = new int[LED_ALL];
    private boolean imageThere = false;
    /** By row of HABITS and one: WORTH, for rest(). */
    private final int[] worths = new int[REST_ROWS * MOST_RESTING];
    private final Billed billed = new Billed();
    private final Bodies bodies = new Bodies();
    private final Shelf[] shelves = new Shelf[SHELVES];

    public PassBill() {
        for (int i = 0; i < SHELVES; i++) {
            shelves[i] = new Shelf();
        }
    }

    // ---- people, snows

    public int person(int wh) {
        int wish = wh / 10;
        int habit = wh % 10;
        if (wh < 0 || !isWithin(WISH, wish) || !isWithin(HABIT, habit)) {
            return BAD;
        }
        return now.join(wish, FIRST[AGE], habit) ? now.people - 1 : FULL;
    }

    public int people(int shelf, int i, int n) {
        Shelf from = shelfAt(shelf);
        if (from == null || n < 1 || n > MOST_PEOPLE) {
            return BAD;
        }
        if (from.sort == HOLDS_NOTHING) {
            return 0;
        }
        if (from.sort != BYTES) {
            return OTHER_KIND;
        }
        int came = 0;
        for (int k = 0; k < n; k++) {
            if (!from.hasPlaces(i + 3 * k, 3) || !joinFromRow(from, i + 3 * k)) {
                return came;
            }
            came++;
        }
        return came;
    }

    private boolean joinFromRow(Shelf from, int place) {
        int wish = (int) from.get(place);
        int age = (int) from.get(place + 1);
        int habit = (int) from.get(place + 2);
        return isWithin(WISH, wish) && isWithin(AGE, age) && isWithin(HABIT, habit) && now.join(wish, age, habit);
    }

    public int mend(int number, int what, int v) {
        int cell = now.cellOf(number, what);
        if (cell < 0 || !isWithin(what, v)) {
            return BAD;
        }
        int before = now.cells[cell];
        if (before != v) {
            changes.note(cell, before, v);
            now.cells[cell] = v;
        }
        return before;
    }

    public int of(int number, int what) {
        int cell = now.cellOf(number, what);
        return cell < 0 ? BAD : now.cells[cell];
    }

    public int feed(int letter) {
        if (letter < 0 || letter > MOST_BYTE) {
            return BAD;
        }
        return reader.hold(letter) ? reader.fed : FULL;
    }

    public int law() {
        boolean isText = reader.readText();
        reader.fed = 0;
        if (!isText) {
            return FAULT_AT - reader.place;
        }
        reckoner.text.become(reader.code, reader.length);
        return 1;
    }

    public int counts(int one) {
        if (!now.has(one)) {
            return BAD;
        }
        reckoner.look(now);
        return reckoner.countsOf(now, one);
    }

    // ---- now

    public int bill(int what) {
        if (what != 0 && what != 1) {
            return BAD;
        }
        reckoner.reckon(now);
        return what == 0 ? reckoner.whole : reckoner.whole - reckoner.paid;
    }

    public int share(int one) {
        if (!now.has(one)) {
            return BAD;
        }
        reckoner.reckon(now);
        return reckoner.shares[one];
    }

    public int worth(int one) {
        if (!now.has(one)) {
            return VOID;
        }
        reckoner.reckon(now);
        return reckoner.worthOf(now, one);
    }

    public int best(int one, int what) {
        if (!now.has(one) || what != 0 && what != 1) {
            return VOID;
        }
        int habit = SILENT;
        int most = worthBy(one, SILENT);
        for (int other = SILENT + 1; other < HABITS; other++) {
            int worth = worthBy(one, other);
            if (worth > most) {
                habit = other;
                most = worth;
            }
        }
        return what == 0 ? habit : most;
    }

    private int worthBy(int one, int habit) {
        thought.copy(now);
        thought.set(one, HABIT, habit);
        reckoner.reckon(thought);
        return reckoner.worthOf(thought, one);
    }

    public int atRest() {
        for (int one = 0; one < now.people; one++) {
            int worth = worthBy(one, now.get(one, HABIT));
            for (int habit = 0; habit < HABITS; habit++) {
                if (worthBy(one, habit) > worth) {
                    return 0;
                }
            }
        }
        return 1;
    }

    public int rest(int k) {
        if (k != -1 && !now.has(k)) {
            return BAD;
        }
        if (now.people > MOST_RESTING) {
            return STATE;
        }
        int rows = 1 << 2 * now.people;
        fillWorths(rows);
        int resting = 0;
        for (int row = 0; row < rows; row++) {
            if (isRowAtRest(row)) {
                if (k >= 0) {
                    return habitIn(row, k);
                }
                resting++;
            }
        }
        return k >= 0 ? NOT : resting;
    }

    /** A row of HABITS is a number of base 4 whose first digit is the HABIT of 0, so that rows come in their order. */
    private int habitIn(int row, int one) {
        return row >> placeIn(one) & 3;
    }

    private int placeIn(int one) {
        return 2 * (now.people - 1 - one);
    }

    private void fillWorths(int rows) {
        thought.copy(now);
        for (int row = 0; row < rows; row++) {
            for (int one = 0; one < now.people; one++) {
                thought.set(one, HABIT, habitIn(row, one));
            }
            reckoner.reckon(thought);
            for (int one = 0; one < now.people; one++) {
                setWorthIn(row, one, reckoner.worthOf(thought, one));
            }
        }
    }

    private void setWorthIn(int row, int one, int worth) {
        int place = row * MOST_RESTING + one;
        if (place >= 0 && place < worths.length) {
            worths[place] = worth;
        }
    }

    private int worthIn(int row, int one) {
        int place = row * MOST_RESTING + one;
        return place >= 0 && place < worths.length ? worths[place] : 0;
    }

    private boolean isRowAtRest(int row) {
        for (int one = 0; one < now.people; one++) {
            int others = row & ~(3 << placeIn(one));
            int worth = worthIn(row, one);
            for (int habit = 0; habit < HABITS; habit++) {
                if (worthIn(others | habit << placeIn(one), one) > worth) {
                    return false;
                }
            }
        }
        return true;
    }

    public int freeRate() {
        thought.copy(now);
        for (int rate = LEAST[RATE]; rate <= MOST[RATE]; rate++) {
            thought.set(0, RATE, rate);
            reckoner.reckon(thought);
            if (nobodyStaysGladly()) {
                return rate;
            }
        }
        return NOT;
    }

    /** Who goes has no SHARE and boasts as before, so that the two WORTHS need no second reckoning. */
    private boolean nobodyStaysGladly() {
        for (int one = 0; one < thought.people; one++) {
            boolean billable = thought.get(one, HABIT) == STAYS && thought.get(one, HEARD) == 1;
            int going = reckoner.gainOf(thought, one, GOES);
            if (billable && going < reckoner.worthOf(thought, one)) {
                return false;
            }
        }
        return true;
    }

    public int pool(int set, int one) {
        if (!now.has(one) || set >>> now.people != 0 || (set >> one & 1) == 0) {
            return VOID;
        }
        reckoner.reckon(now);
        return reckoner.shares[one] - pooled(set);
    }

    /** What each of a set pays alike, by the SHARES reckoned last. */
    private int pooled(int set) {
        int sum = 0;
        int payers = 0;
        for (int one = 0; one < now.people; one++) {
            if ((set >> one & 1) == 1) {
                sum += reckoner.shares[one];
                payers++;
            }
        }
        return payers == 0 ? 0 : (sum + payers - 1) / payers;
    }

    public int spared() {
        reckoner.reckon(now);
        int set = 0;
        for (int one = 0; one < now.people; one++) {
            set |= reckoner.assessed[one] > 0 ? 1 << one : 0;
        }
        int alike = pooled(set);
        int less = 0;
        for (int one = 0; one < now.people; one++) {
            less |= reckoner.assessed[one] > 0 && reckoner.shares[one] > alike ? 1 << one : 0;
        }
        return less;
    }

    // ---- years in thought

    public int later(int n, int one, int what) {
        boolean ofOne = what == 0 || what == 1;
        if (n < 0 || n > MOST_THOUGHT || what < 0 || what > 4 || (ofOne ? !now.has(one) : one != 0)) {
            return BAD;
        }
        thought.copy(now);
        int paid = 0;
        int lacking = 0;
        for (int gone = 0; gone < n; gone++) {
            reckoner.endYear(thought);
            paid += reckoner.paid;
            lacking += reckoner.lacking;
        }
        switch (what) {
            case 0: return thought.get(one, PURSE);
            case 1: return thought.get(one, AGE);
            case 2: return paid;
            case 3: return lacking;
            default: return thought.snow() * thought.get(0, RATE);
        }
    }

    public int broke(int one) {
        if (!now.has(one)) {
            return BAD;
        }
        thought.copy(now);
        for (int gone = 0; gone <= MOST_THOUGHT; gone++) {
            if (thought.get(one, PURSE) == 0) {
                return gone;
            }
            reckoner.endYear(thought);
        }
        return NOT;
    }

    public int thrift(int one, int n, int what) {
        if (!now.has(one) || n < 0 || n > MOST_THRIFT || what != 0 && what != 1) {
            return BAD;
        }
        int best = SILENT;
        int most = purseBy(one, SILENT, n);
        for (int habit = SILENT + 1; habit < HABITS; habit++) {
            int purse = purseBy(one, habit, n);
            if (purse > most) {
                best = habit;
                most = purse;
            }
        }
        return what == 0 ? best : most;
    }

    private int purseBy(int one, int habit, int n) {
        thought.copy(now);
        thought.set(one, HABIT, habit);
        for (int gone = 0; gone < n; gone++) {
            reckoner.endYear(thought);
        }
        return thought.get(one, PURSE);
    }

    // ---- what was billed

    public int judge(int shelf) {
        int refusal = readBilled(shelf);
        if (refusal != 0) {
            return refusal;
        }
        reckoner.reckon(now);
        int wrong = billed.firstWrong(reckoner.shares);
        return wrong < 0 ? NOT : wrong;
    }

    /** 0, or why the SHELF has no ROW of shorts. */
    private int readBilled(int shelf) {
        Shelf from = shelfAt(shelf);
        if (from == null) {
            return BAD;
        }
        if (from.sort == HOLDS_NOTHING) {
            return NOTHING_THERE;
        }
        if (from.sort != SHORTS) {
            return OTHER_KIND;
        }
        billed.readTwos(from, now.people);
        return 0;
    }

    public int fits(int shelf, int one, int what) {
        boolean ofOne = what == 0 || what == 1;
        if (what < 0 || what > 5 || (ofOne ? !now.has(one) : one != 0)) {
            return BAD;
        }
        int refusal = readBilled(shelf);
        if (refusal != 0) {
            return refusal;
        }
        switch (what) {
            case 0: return fittingOf(one, HABIT);
            case 1: return fittingOf(one, KIND);
            case 2: return fittingSnows(false);
            case 3: return fittingSnows(true);
            case 4: return fittingEars(false);
            default: return fittingEars(true);
        }
    }

    private boolean isAllSo() {
        return billed.firstWrong(reckoner.shares) < 0;
    }

    private int fittingOf(int one, int what) {
        thought.copy(now);
        int bits = 0;
        for (int v = LEAST[what]; v <= MOST[what]; v++) {
            thought.set(one, what, v);
            reckoner.reckon(thought);
            bits |= isAllSo() ? 1 << v : 0;
        }
        return bits;
    }

    private int fittingSnows(boolean least) {
        thought.copy(now);
        int fitting = 0;
        for (int snow = 0; snow < SNOWS; snow++) {
            thought.setSnow(snow);
            reckoner.reckon(thought);
            if (isAllSo()) {
                if (least) {
                    return snow;
                }
                fitting++;
            }
        }
        return least ? NOT : fitting;
    }

    /** What a saying COUNTS does not hang on who is HEARD: weighed once, the sets only share it out anew. */
    private int fittingEars(boolean least) {
        reckoner.weigh(now);
        int fitting = 0;
        for (int ears = 0; ears < 1 << now.people; ears++) {
            reckoner.shareOut(now, ears);
            if (isAllSo()) {
                if (least) {
                    return ears;
                }
                fitting++;
            }
        }
        return least ? NOT : fitting;
    }

    public int said(int what) {
        switch (what) {
            case 0: return leastSaid();
            case 1: return dearest();
            case 2: return alike();
            default: return BAD;
        }
    }

    /** All sets are tried: by the law, one who falls silent may take away what another one's saying COUNTS. */
    private int leastSaid() {
        int fewest = now.people;
        for (int silent = 0; silent < 1 << now.people; silent++) {
            int size = Integer.bitCount(silent);
            if (size < fewest) {
                thinkSilent(silent);
                reckoner.reckon(thought);
                fewest = reckoner.total == 0 ? size : fewest;
            }
        }
        return fewest;
    }

    private void thinkSilent(int set) {
        thought.copy(now);
        for (int one = 0; one < now.people; one++) {
            if ((set >> one & 1) == 1) {
                thought.set(one, HABIT, SILENT);
            }
        }
    }

    private int dearest() {
        reckoner.reckon(now);
        int who = NOT;
        int most = 0;
        for (int one = 0; one < now.people; one++) {
            if (reckoner.shares[one] > most) {
                who = one;
                most = reckoner.shares[one];
            }
        }
        return who;
    }

    private int alike() {
        reckoner.reckon(now);
        int pairs = 0;
        for (int one = 0; one < now.people; one++) {
            for (int other = one + 1; other < now.people; other++) {
                boolean same = reckoner.shares[one] == reckoner.shares[other];
                pairs += same && reckoner.shares[one] > 0 ? 1 : 0;
            }
        }
        return pairs;
    }

    public int byTurns(int one, int n, int what) {
        if (!now.has(one) || n < 1 || n > MOST_TURNS || what != 0 && what != 1) {
            return BAD;
        }
        reckoner.weigh(now);
        int ears = now.ears();
        int pick = NOBODY;
        int most = shareBehind(one, n - 1, ears, false);
        for (int heard = 0; heard < now.people; heard++) {
            int share = shareBehind(one, n - 1, ears ^ 1 << heard, false);
            if (share > most) {
                pick = heard;
                most = share;
            }
        }
        return what == 0 ? most : pick;
    }

    /** The SHARE of one behind the turns that are left, if both do their best. */
    private int shareBehind(int one, int left, int ears, boolean clerk) {
        if (left <= 0) {
            reckoner.shareOut(now, ears);
            return reckoner.shareOf(one);
        }
        int best = shareBehind(one, left - 1, ears, !clerk);
        for (int heard = 0; heard < now.people; heard++) {
            int share = shareBehind(one, left - 1, ears ^ 1 << heard, !clerk);
            best = clerk ? Math.max(best, share) : Math.min(best, share);
        }
        return best;
    }

    public int drawn(int seed, int nmm, int one) {
        int lives = nmm / 10000;
        int lived = nmm / 100 % 100;
        int moods = nmm % 100;
        boolean told = lives >= 1 && lives <= MOST_LIVES && lived >= 1 && lived <= MOST_LIVED
            && moods >= 0 && moods <= MOST_MOODS;
        if (!told || one != -1 && !now.has(one)) {
            return BAD;
        }
        int z = seed;
        int sum = 0;
        for (int life = 0; life < lives; life++) {
            thought.copy(now);
            for (int gone = 0; gone < lived; gone++) {
                z = z * 1103515245 + 12345;
                stir(z, moods);
                reckoner.endYear(thought);
                sum += one == -1 ? reckoner.paid : 0;
            }
            sum += one == -1 ? 0 : thought.get(one, PURSE);
        }
        return sum;
    }

    private void stir(int z, int moods) {
        thought.setSnow((z >>> 8) % SNOWS);
        if (thought.people > 0 && (z >>> 24) % MOST_MOODS < moods) {
            thought.set((z >>> 16) % thought.people, HABIT, (z >>> 20) % HABITS);
        }
    }

    // ---- in deed

    public int takes(int one, int habit) {
        if (!now.has(one) || !isWithin(HABIT, habit)) {
            return BAD;
        }
        int before = now.get(one, HABIT);
        now.set(one, HABIT, habit);
        ledger[LED_TAKEN]++;
        return before;
    }

    public int hears(int one, int how) {
        if (!now.has(one) || !isWithin(HEARD, how)) {
            return BAD;
        }
        int before = now.get(one, HEARD);
        now.set(one, HEARD, how);
        ledger[LED_HEARD] += how;
        return before;
    }

    public int year() {
        reckoner.endYear(now);
        ledger[LED_YEARS]++;
        ledger[LED_PAID] += reckoner.paid;
        ledger[LED_LACKING] += reckoner.lacking;
        return reckoner.paid;
    }

    public int gives(int one, int other, int v) {
        if (!now.has(one) || !now.has(other) || one == other || v < 1 || v > MOST[PURSE]) {
            return BAD;
        }
        int left = now.get(one, PURSE) - v;
        int more = now.get(other, PURSE) + v;
        if (left < 0 || more > MOST[PURSE]) {
            return STATE;
        }
        now.set(one, PURSE, left);
        now.set(other, PURSE, more);
        ledger[LED_GIVEN] += v;
        return left;
    }

    public int led(int what) {
        return what < 0 || what >= LED_ALL ? BAD : ledger[what];
    }

    public int image() {
        kept.copy(now);
        System.arraycopy(ledger, 0, keptLedger, 0, LED_ALL);
        imageThere = true;
        return ledger[LED_YEARS];
    }

    public int back() {
        if (!imageThere) {
            return STATE;
        }
        for (int one = 0; one < kept.people; one++) {
            now.set(one, PURSE, kept.get(one, PURSE));
            now.set(one, AGE, kept.get(one, AGE));
            now.set(one, HABIT, kept.get(one, HABIT));
            now.set(one, HEARD, kept.get(one, HEARD));
        }
        now.set(0, YEAR, kept.get(0, YEAR));
        System.arraycopy(keptLedger, 0, ledger, 0, LED_ALL);
        return ledger[LED_YEARS];
    }

    public int undo() {
        if (changes.done == 0) {
            return STATE;
        }
        changes.stepBack(now.cells);
        return changes.done;
    }

    public int redo() {
        if (changes.done == changes.noted) {
            return STATE;
        }
        changes.stepOn(now.cells);
        return changes.noted - changes.done;
    }

    // ---- acts, shelves

    public int body(int kind) {
        if (!isKind(kind)) {
            return BAD;
        }
        return bodies.add(kind) ? bodies.made - 1 : FULL;
    }

    public int act(int body, int act, int x) {
        return bodies.start(body, act, x);
    }

    public int trace(int i) {
        return i < 0 || i >= bodies.ran || i >= MOST_TRACE ? BAD : bodies.begun[i];
    }

    public int keep(int shelf, int body) {
        Shelf to = shelfAt(shelf);
        if (to == null || body != -1 && !bodies.has(body)) {
            return BAD;
        }
        to.sort = body == -1 ? HOLDS_NOTHING : HOLDS_BODY;
        to.body = body;
        return 1;
    }

    public int row(int shelf, int sort, int n) {
        Shelf to = shelfAt(shelf);
        if (to == null || sort < BYTES || sort > BOOLEANS || n > MOST_ELEMENTS) {
            return BAD;
        }
        if (n < 0) {
            return SIZE_BELOW;
        }
        to.holdRow(sort, n);
        return 1;
    }

    public int put(int shelf, int i, long v) {
        Shelf to = shelfAt(shelf);
        if (to == null) {
            return BAD;
        }
        int refusal = to.refusalAt(i);
        if (refusal != 0) {
            return refusal;
        }
        to.set(i, v);
        return 1;
    }

    public long element(int shelf, int i) {
        Shelf from = shelfAt(shelf);
        if (from == null || from.refusalAt(i) != 0) {
            return Long.MIN_VALUE;
        }
        return from.get(i);
    }

    public int shift(int shelf, int i, int other, int j, int n) {
        Shelf from = shelfAt(shelf);
        Shelf to = shelfAt(other);
        if (from == null || to == null) {
            return BAD;
        }
        if (from.sort == HOLDS_NOTHING || to.sort == HOLDS_NOTHING) {
            return NOTHING_THERE;
        }
        if (from.sort == HOLDS_BODY || from.sort != to.sort) {
            return OTHER_KIND;
        }
        if (!from.hasPlaces(i, n) || !to.hasPlaces(j, n)) {
            return NO_PLACE;
        }
        System.arraycopy(from.elements, i, to.elements, j, n);
        return n;
    }

    public int taken(int shelf, int k) {
        Shelf from = shelfAt(shelf);
        if (from == null || !isKind(k)) {
            return BAD;
        }
        if (from.sort == HOLDS_NOTHING) {
            return NOTHING_THERE;
        }
        if (from.sort != HOLDS_BODY || !bodies.has(from.body)) {
            return OTHER_KIND;
        }
        int kind = bodies.kinds[from.body];
        return bodies.isUnder(kind, k) ? kind : OTHER_KIND;
    }

    public int count(int what) {
        switch (what) {
            case 0: return now.people;
            case 1: return howManyAssessed();
            case 2: return reader.fed;
            case 3: return changes.done;
            case 4: return bodies.made;
            case 5: return bodies.ran;
            default: return BAD;
        }
    }

    private int howManyAssessed() {
        reckoner.reckon(now);
        int assessed = 0;
        for (int one = 0; one < now.people; one++) {
            assessed += reckoner.assessed[one] > 0 ? 1 : 0;
        }
        return assessed;
    }

    private static boolean isWithin(int what, int v) {
        return what >= WISH && what <= BOAST && v >= LEAST[what] && v <= MOST[what];
    }

    private static boolean isKind(int kind) {
        return kind >= 0 && kind < KINDS;
    }

    private Shelf shelfAt(int shelf) {
        return shelf < 0 || shelf >= SHELVES ? null : shelves[shelf];
    }

    /** All numbers of mend() in one row of cells, so that mending, undoing and copying need no case for each. */
    private static final class World {
        final int[] cells = new int[CELLS];
        int people = 0;

        World() {
            for (int year = 0; year < YEARS; year++) {
                cells[SNOW_AT + year] = FIRST[SNOW];
            }
            for (int what = YEAR; what <= BOAST; what++) {
                cells[YEAR_AT + what - YEAR] = FIRST[what];
            }
        }

        boolean has(int one) {
            return one >= 0 && one < people;
        }

        /** The cell of a number of mend(); -1: there is none such. */
        int cellOf(int number, int what) {
            if (number < 0 || what < WISH || what > BOAST) {
                return -1;
            }
            if (what <= EARNS) {
                return number < people ? what * MOST_PEOPLE + number : -1;
            }
            if (what == SNOW) {
                return number < YEARS ? SNOW_AT + number : -1;
            }
            return number == 0 ? YEAR_AT + what - YEAR : -1;
        }

        int get(int number, int what) {
            int cell = cellOf(number, what);
            return cell < 0 ? 0 : cells[cell];
        }

        void set(int number, int what, int v) {
            int cell = cellOf(number, what);
            if (cell >= 0) {
                cells[cell] = v;
            }
        }

        int snow() {
            return cells[SNOW_AT + Math.floorMod(cells[YEAR_AT], YEARS)];
        }

        void setSnow(int snow) {
            cells[SNOW_AT + Math.floorMod(cells[YEAR_AT], YEARS)] = snow;
        }

        boolean join(int wish, int age, int habit) {
            if (people >= MOST_PEOPLE) {
                return false;
            }
            people++;
            for (int what = WISH; what <= EARNS; what++) {
                set(people - 1, what, FIRST[what]);
            }
            set(people - 1, WISH, wish);
            set(people - 1, AGE, age);
            set(people - 1, HABIT, habit);
            return true;
        }

        void copy(World other) {
            System.arraycopy(other.cells, 0, cells, 0, CELLS);
            people = other.people;
        }

        /** Those HEARD, as bits. */
        int ears() {
            int bits = 0;
            for (int one = 0; one < people; one++) {
                bits |= get(one, HEARD) << one;
            }
            return bits;
        }
    }

    /** What a year costs whom. */
    private static final class Reckoner {
        final Text text = new Text();
        final int[] names = new int[NAMES];
        /** What each would be ASSESSED by if he were HEARD. */
        final int[] weights = new int[MOST_PEOPLE];
        final int[] assessed = new int[MOST_PEOPLE];
        final int[] shares = new int[MOST_PEOPLE];
        int sayers = 0;
        int goers = 0;
        int whole = 0;
        int total = 0;
        int paid = 0;
        int lacking = 0;

        static boolean isSaid(int habit) {
            return habit == STAYS || habit == GOES;
        }

        static boolean isGone(int habit) {
            return habit >= GOES;
        }

        void look(World world) {
            sayers = 0;
            goers = 0;
            for (int one = 0; one < world.people; one++) {
                int habit = world.get(one, HABIT);
                sayers += isSaid(habit) ? 1 : 0;
                goers += isGone(habit) ? 1 : 0;
            }
        }

        /** Behind look() at the same world. */
        int countsOf(World world, int one) {
            names[0] = world.get(one, KIND);
            names[1] = world.get(one, WISH);
            names[2] = world.get(one, AGE);
            names[3] = isSaid(world.get(one, HABIT)) ? sayers - 1 : sayers;
            names[4] = world.snow();
            names[5] = goers;
            int counted = text.isEmpty() ? 5 - names[0] + names[1] / 3 : text.workOut(names);
            return Math.max(0, Math.min(MOST_COUNTED, counted));
        }

        void weigh(World world) {
            look(world);
            for (int one = 0; one < MOST_PEOPLE; one++) {
                boolean stays = world.has(one) && world.get(one, HABIT) == STAYS;
                weights[one] = stays ? countsOf(world, one) : 0;
            }
        }

        /** Behind weigh() of the same world: the SHARES, if those of a set are HEARD. */
        void shareOut(World world, int ears) {
            whole = world.snow() * world.get(0, RATE);
            total = 0;
            for (int one = 0; one < MOST_PEOPLE; one++) {
                assessed[one] = (ears >> one & 1) == 1 ? weights[one] : 0;
                total += assessed[one];
            }
            paid = 0;
            for (int one = 0; one < MOST_PEOPLE; one++) {
                shares[one] = total == 0 ? 0 : whole * assessed[one] / total;
                paid += shares[one];
            }
        }

        void reckon(World world) {
            weigh(world);
            shareOut(world, world.ears());
        }

        int shareOf(int one) {
            return one < 0 || one >= MOST_PEOPLE ? 0 : shares[one];
        }

        /** Behind reckon() of the same world. */
        int worthOf(World world, int one) {
            return gainOf(world, one, world.get(one, HABIT)) - shareOf(one);
        }

        /** WORTH by a HABIT, without his SHARE. */
        int gainOf(World world, int one, int habit) {
            int gain = isGone(habit) ? 10 * world.get(one, WISH) - world.snow() / 2 : 0;
            return isSaid(habit) ? gain + world.get(0, BOAST) : gain;
        }

        void endYear(World world) {
            weigh(world);
            shareOut(world, world.ears());
            lacking = 0;
            int cost = world.snow() / 2;
            for (int one = 0; one < world.people; one++) {
                int left = world.get(one, PURSE) - shareOf(one) - (isGone(world.get(one, HABIT)) ? cost : 0);
                lacking += Math.max(0, -left);
                int earned = Math.max(0, left) + world.get(one, EARNS);
                world.set(one, PURSE, Math.min(MOST[PURSE], earned));
                world.set(one, AGE, Math.min(MOST[AGE], world.get(one, AGE) + 1));
            }
            world.set(0, YEAR, Math.min(MOST[YEAR], world.get(0, YEAR) + 1));
        }
    }

    /**
     * THE LAW as signs that are worked out over a stack: 0 to 5 a NAME; NUMBER and above a number; an operator behind
     * what it works on; below 0, behind a LINE's first E: less the place of that LINE's END.
     */
    private static final class Text {
        final int[] code = new int[MOST_CODE];
        int length = 0;
        final int[] stack = new int[MOST_CODE];

        boolean isEmpty() {
            return length == 0;
        }

        void become(int[] signs, int size) {
            length = Math.max(0, Math.min(size, Math.min(signs.length, MOST_CODE)));
            System.arraycopy(signs, 0, code, 0, length);
        }

        int workOut(int[] names) {
            int height = 0;
            for (int place = 0; place < length; place++) {
                int sign = code[place];
                if (sign >= 0 && sign < NAMES || sign >= NUMBER) {
                    if (height >= MOST_CODE) {
                        return 0;
                    }
                    stack[height] = sign >= NUMBER ? sign - NUMBER : names[sign];
                    height++;
                    continue;
                }
                if (height < 1) {
                    return 0;
                }
                int last = stack[height - 1];
                if (sign == END) {
                    return last;
                } else if (sign < 0) {
                    height = 0;
                    place = last == 0 ? Math.max(place, -sign) : place;
                } else if (sign == '!' || sign == MINUS) {
                    stack[height - 1] = sign == MINUS ? -last : last == 0 ? 1 : 0;
                } else if (height < 2) {
                    return 0;
                } else {
                    height--;
                    stack[height - 1] = combine(sign, stack[height - 1], last);
                }
            }
            return 0;
        }

        static int combine(int sign, int left, int right) {
            switch (sign) {
                case '|': return left != 0 || right != 0 ? 1 : 0;
                case '&': return left != 0 && right != 0 ? 1 : 0;
                case '<': return left < right ? 1 : 0;
                case '=': return left == right ? 1 : 0;
                case '>': return left > right ? 1 : 0;
                case '+': return left + right;
                case '-': return left - right;
                case '*': return left * right;
                case '/': return right == 0 ? 0 : left / right;
                case '%': return right == 0 ? 0 : left % right;
                default: return 0;
            }
        }
    }

    /** THE TAPE, and the reading of it: where reading ends early, place is the FAULT. */
    private static final class Reader {
        final int[] tape = new int[MOST_TAPE];
        int fed = 0;
        int place = 0;
        final int[] code = new int[MOST_CODE];
        int length = 0;

        boolean hold(int letter) {
            if (fed >= MOST_TAPE) {
                return false;
            }
            tape[fed] = letter;
            fed++;
            return true;
        }

        int next() {
            return place >= 0 && place < fed && place < MOST_TAPE ? tape[place] : -1;
        }

        boolean accept(int sign) {
            if (next() != sign) {
                return false;
            }
            place++;
            return true;
        }

        void emit(int sign) {
            if (length < MOST_CODE) {
                code[length] = sign;
                length++;
            }
        }

        boolean readText() {
            place = 0;
            length = 0;
            for (int line = 0; line <= MOST_TAPE; line++) {
                if (!readLine()) {
                    return false;
                }
                if (place >= fed) {
                    return true;
                }
                if (!accept(END)) {
                    return false;
                }
            }
            return false;
        }

        private boolean readLine() {
            if (!readRung(0, 0)) {
                return false;
            }
            if (accept('?')) {
                int test = length;
                emit(0);
                if (!readRung(0, 0)) {
                    return false;
                }
                if (test < MOST_CODE) {
                    code[test] = -length;
                }
            }
            emit(END);
            return true;
        }

        /** Of the rungs E, A, B, S, P, O (0 .. 5), each is made of the next; open: how many of ( ! - are. */
        private boolean readRung(int rung, int open) {
            if (rung >= OPERAND) {
                return readOperand(open);
            }
            if (!readRung(rung + 1, open)) {
                return false;
            }
            int most = rung == COMPARING ? 1 : MOST_TAPE;
            for (int turn = 0; turn < most && rungOf(next()) == rung; turn++) {
                int sign = next();
                place++;
                if (!readRung(rung + 1, open)) {
                    return false;
                }
                emit(sign);
            }
            return true;
        }

        private static int rungOf(int sign) {
            switch (sign) {
                case '|': return 0;
                case '&': return 1;
                case '<': case '=': case '>': return COMPARING;
                case '+': case '-': return 3;
                case '*': case '/': case '%': return 4;
                default: return -1;
            }
        }

        private boolean readOperand(int open) {
            int sign = next();
            if (isDigit(sign)) {
                readNumber();
                return true;
            }
            int name = nameOf(sign);
            if (name >= 0) {
                place++;
                emit(name);
                return true;
            }
            if (open >= MOST_OPEN || sign != '(' && sign != '!' && sign != '-') {
                return false;
            }
            place++;
            if (sign == '(') {
                return readRung(0, open + 1) && accept(')');
            }
            if (!readOperand(open + 1)) {
                return false;
            }
            emit(sign == '-' ? MINUS : sign);
            return true;
        }

        private static int nameOf(int sign) {
            switch (sign) {
                case 'k': return 0;
                case 'w': return 1;
                case 'a': return 2;
                case 'o': return 3;
                case 's': return 4;
                case 'g': return 5;
                default: return -1;
            }
        }

        private static boolean isDigit(int sign) {
            return sign >= '0' && sign <= '9';
        }

        private void readNumber() {
            int number = 0;
            for (int digit = 0; digit < MOST_DIGITS && isDigit(next()); digit++) {
                number = number * 10 + next() - '0';
                place++;
            }
            emit(NUMBER + number);
        }
    }

    /** CHANGES that may be UNDONE, and behind them those that may be DONE AGAIN. */
    private static final class Changes {
        final int[] changed = new int[MOST_CHANGES];
        final int[] before = new int[MOST_CHANGES];
        final int[] after = new int[MOST_CHANGES];
        int done = 0;
        int noted = 0;

        void note(int cell, int from, int to) {
            if (done >= MOST_CHANGES) {
                forgetOldest();
            }
            changed[done] = cell;
            before[done] = from;
            after[done] = to;
            done++;
            noted = done;
        }

        private void forgetOldest() {
            System.arraycopy(changed, 1, changed, 0, MOST_CHANGES - 1);
            System.arraycopy(before, 1, before, 0, MOST_CHANGES - 1);
            System.arraycopy(after, 1, after, 0, MOST_CHANGES - 1);
            done = MOST_CHANGES - 1;
        }

        void stepBack(int[] cells) {
            if (done > 0) {
                done--;
                lay(cells, changed[done], before[done]);
            }
        }

        void stepOn(int[] cells) {
            if (done < noted) {
                lay(cells, changed[done], after[done]);
                done++;
            }
        }

        private static void lay(int[] cells, int cell, int v) {
            if (cell >= 0 && cell < cells.length) {
                cells[cell] = v;
            }
        }
    }

    /** The twos of a ROW that tells what was BILLED. */
    private static final class Billed {
        final int[] who = new int[MOST_TWOS];
        final int[] told = new int[MOST_TWOS];
        int twos = 0;

        void readTwos(Shelf from, int people) {
            twos = 0;
            for (int two = 0; two < MOST_TWOS && 2 * two + 1 < from.size; two++) {
                int one = (int) from.get(2 * two);
                int share = (int) from.get(2 * two + 1);
                if (one < 0 || one >= people || share < 0) {
                    return;
                }
                who[two] = one;
                told[two] = share;
                twos = two + 1;
            }
        }

        /** The first two that is not so; -1: all are. */
        int firstWrong(int[] shares) {
            for (int two = 0; two < twos; two++) {
                int one = who[two];
                if (one < 0 || one >= shares.length || shares[one] != told[two]) {
                    return two;
                }
            }
            return -1;
        }
    }

    /** BODIES, their acts and THE TRACE. */
    private static final class Bodies {
        final int[] kinds = new int[MOST_BODIES];
        int made = 0;
        final int[] begun = new int[MOST_TRACE];
        int ran = 0;
        /** The BODY whose act runs. */
        int self = 0;

        boolean has(int body) {
            return body >= 0 && body < made;
        }

        boolean add(int kind) {
            if (made >= MOST_BODIES) {
                return false;
            }
            kinds[made] = kind;
            made++;
            return true;
        }

        boolean isUnder(int kind, int above) {
            int at = kind;
            for (int step = 0; step < KINDS && isKind(at); step++) {
                if (at == above) {
                    return true;
                }
                at = ABOVE[at];
            }
            return false;
        }

        /** The KIND that has a body of the ACT: this one, or the next above; -1: none. */
        private int ownerOf(int kind, int act) {
            int at = kind;
            for (int step = 0; step < KINDS && isKind(at); step++) {
                if (OWN[at * ACTS + act] != 0) {
                    return at;
                }
                at = ABOVE[at];
            }
            return -1;
        }

        private void begin(int number) {
            if (ran < MOST_TRACE) {
                begun[ran] = number;
            }
            ran++;
        }

        int start(int body, int act, int x) {
            ran = 0;
            if (!has(body) || act < 0 || act >= ACTS) {
                return 0;
            }
            self = body;
            return perform(kinds[body], act, x, 0);
        }

        /** Runs the ACT's body as it is found from a KIND on. */
        private int perform(int from, int act, int x, int depth) {
            int owner = act < 0 || act >= ACTS ? -1 : ownerOf(from, act);
            if (owner < 0 || depth > DEEPEST_ACT) {
                return 0;
            }
            int number = OWN[owner * ACTS + act];
            int above = ABOVE[owner];
            int deeper = depth + 1;
            begin(number);
            switch (number) {
                case 1: return x + self;
                case 2: return again(TO_COUNT, x, deeper) - again(TO_GO, 1, deeper);
                case 10: return again(TO_SAY, x, deeper) * 2;
                case 11: return x ^ self;
                case 20: return perform(above, TO_SAY, x, deeper) + 3;
                case 30: return -perform(above, TO_COUNT, x, deeper);
                case 40: return perform(above, TO_GO, x, deeper) * 3;
                case 41: return perform(above, TO_COUNT, x + 1, deeper);
                case 50: return perform(above, TO_TELL, x, deeper) ^ 5;
                case 60: return perform(above, TO_GO, x, deeper) - again(TO_SAY, 2, deeper);
                case 61: return perform(above, TO_TELL, x, deeper) + 1;
                case 70: return perform(above, TO_SAY, x, deeper) * 2;
                case 80: return perform(above, TO_COUNT, x, deeper) + again(TO_GO, 2, deeper);
                case 81: return perform(above, TO_SAY, x, deeper) - 1;
                default: return 0;
            }
        }

        /** An act that a body calls on itself: found anew from the BODY's own KIND on. */
        private int again(int act, int x, int depth) {
            return has(self) ? perform(kinds[self], act, x, depth) : 0;
        }
    }

    /** Holds nothing, a BODY, or a ROW; its sort tells which. */
    private static final class Shelf {
        int sort = HOLDS_NOTHING;
        int body = -1;
        int size = 0;
        final long[] elements = new long[MOST_ELEMENTS];

        void holdRow(int rowSort, int n) {
            sort = rowSort;
            size = Math.max(0, Math.min(n, MOST_ELEMENTS));
            for (int i = 0; i < MOST_ELEMENTS; i++) {
                elements[i] = 0;
            }
        }

        /** 0, or why no element i can be reached. */
        int refusalAt(int i) {
            if (sort == HOLDS_NOTHING) {
                return NOTHING_THERE;
            }
            if (sort == HOLDS_BODY) {
                return OTHER_KIND;
            }
            return i < 0 || i >= size ? NO_PLACE : 0;
        }

        boolean hasPlaces(int i, int n) {
            return i >= 0 && n >= 0 && n <= size && i <= size - n;
        }

        long get(int i) {
            return i < 0 || i >= size || i >= MOST_ELEMENTS ? 0 : elements[i];
        }

        void set(int i, long v) {
            if (i >= 0 && i < size && i < MOST_ELEMENTS) {
                elements[i] = lowest(v);
            }
        }

        /** What an element of the ROW's sort keeps of v. */
        private long lowest(long v) {
            switch (sort) {
                case BYTES: return (byte) v;
                case SHORTS: return (short) v;
                case INTS: return (int) v;
                case BOOLEANS: return v != 0 ? 1 : 0;
                default: return v;
            }
        }
    }
}
