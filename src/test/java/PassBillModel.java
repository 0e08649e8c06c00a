import java.util.ArrayList;
import java.util.Arrays;
import java.util.List;
import java.util.Random;

/** Runs of drawn calls on the class and on a plain, slow model of the document, which must answer alike. */
public final class PassBillModel {
    private static final int RUNS = 600, CALLS = 512, TEXTS = 20000;

    /** Many texts, each on a new object: its FAULT, and what it counts for each of four. */
    private static void laws() {
        Random random = new Random(4);
        int whole = 0;
        for (int k = 0; k < TEXTS; k++) {
            String text = Texts.draw(random);
            PassBill x = new PassBill();
            Model model = new Model();
            for (int one = 0; one < 4; one++) {
                int wh = 10 * random.nextInt(10) + random.nextInt(4);
                int kind = random.nextInt(5);
                int age = random.nextInt(100);
                x.person(wh);
                x.mend(one, 4, kind);
                x.mend(one, 2, age);
                model.person(wh);
                model.mend(one, 4, kind);
                model.mend(one, 2, age);
            }
            for (int i = 0; i < text.length(); i++) {
                x.feed(text.charAt(i));
                model.feed(text.charAt(i));
            }
            long want = model.law();
            long got = x.law();
            whole += want == 1 ? 1 : 0;
            boolean same = got == want;
            for (int one = 0; one < 4; one++) {
                same &= x.counts(one) == model.counts(one);
            }
            if (!same) {
                System.out.println("law() of " + text + " answered " + got + ", due is " + want + ", or it counts otherwise");
                System.exit(1);
            }
        }
        System.out.println(TEXTS + " texts, " + whole + " of them whole, are read as the model's");
    }

    public static void main(String[] args) {
        laws();
        long[] tally = new long[43];
        long[] served = new long[43];
        for (int run = 0; run < RUNS; run++) {
            Draw draw = new Draw(run);
            PassBill x = new PassBill();
            Model model = new Model();
            StringBuilder told = new StringBuilder();
            for (int call = 0; call < CALLS; call++) {
                long[] drawn = draw.call(model);
                int which = (int) drawn[0];
                long[] a = Arrays.copyOfRange(drawn, 1, drawn.length);
                long want = Calls.of(model, which, a);
                long got;
                try {
                    got = Calls.of(x, which, a);
                } catch (RuntimeException | StackOverflowError e) {
                    System.out.println("run " + run + ", call " + call + ": " + Calls.NAMES[which] + Arrays.toString(a) + " threw " + e);
                    System.exit(1);
                    return;
                }
                tally[which]++;
                served[which] += want >= 0 ? 1 : 0;
                told.append(Calls.NAMES[which]).append(Arrays.toString(a)).append(" = ").append(got).append('\n');
                if (got != want) {
                    System.out.println("run " + run + ", call " + call + ": due is " + want + " at the end of\n" + told);
                    System.exit(1);
                }
            }
        }
        for (int which = 0; which < 43; which++) {
            if (tally[which] < 100 || served[which] < 20) {
                System.out.println(Calls.NAMES[which] + " is drawn too seldom: " + tally[which] + ", served " + served[which]);
                System.exit(1);
            }
        }
        System.out.println(RUNS + " runs of " + CALLS + " calls are as the model's");
    }
}

/** What is called, and with what. */
final class Draw {
    private static final int[] EDGES = {-1, -2, 0, 1, 8, 9, 60, 61, 99, 100, 120, 255, 256, 9999, 10000,
        Integer.MIN_VALUE, Integer.MAX_VALUE, -100, 65536, 32768};
    private final Random random;
    /** Calls that belong together (a law, a bill) wait here: each the number of the call, then its arguments. */
    private final List<long[]> waiting = new ArrayList<>();
    private final int boldness;

    Draw(long seed) {
        random = new Random(seed * 7919 + 17);
        boldness = 6 + random.nextInt(60);
        for (int left = random.nextInt(9); left > 0; left--) {
            will("person", 10 * to(9) + (random.nextInt(3) != 0 ? 1 : to(3)));
        }
        for (int left = random.nextInt(9); left > 0; left--) {
            will("body", to(7));
        }
        if (random.nextBoolean()) {
            law();
        }
    }

    private void will(String name, long... arguments) {
        long[] call = new long[arguments.length + 1];
        call[0] = Arrays.asList(Calls.NAMES).indexOf(name);
        System.arraycopy(arguments, 0, call, 1, arguments.length);
        waiting.add(call);
    }

    private void law() {
        String text = Texts.draw(random);
        for (int i = 0; i < text.length(); i++) {
            will("feed", text.charAt(i));
        }
        will("law");
    }

    private void bill(Model model) {
        int shelf = to(5);
        int twos = to(random.nextInt(5) == 0 ? 29 : 3);
        will("row", shelf, 1, 2 * twos + to(1));
        for (int two = 0; two < twos; two++) {
            int one = to(Math.max(0, model.folk.size() - 1));
            boolean wrong = random.nextInt(3 + twos) == 0;
            will("put", shelf, 2 * two, random.nextInt(30) == 0 ? edge() : one);
            will("put", shelf, 2 * two + 1, wrong ? to(200) - 5 : model.share(one));
        }
        will("judge", shelf);
        for (int left = to(4); left >= 0; left--) {
            int what = to(5);
            will("fits", shelf, what < 2 ? to(Math.max(0, model.folk.size() - 1)) : 0, what);
        }
    }

    private void folkRow() {
        int shelf = to(5);
        int threes = 1 + to(7);
        will("row", shelf, 0, 3 * threes + to(2));
        for (int i = 0; i < 3 * threes; i++) {
            will("put", shelf, i, random.nextInt(40) == 0 ? edge() : to(new int[] {9, 99, 3}[i % 3]));
        }
        will("people", shelf, to(4), 1 + to(7));
    }

    private void acts(Model model) {
        will("body", to(7));
        will("act", to(model.bodies.size()), to(3), random.nextBoolean() ? random.nextInt() : to(20));
        for (int i = 0; i < 4; i++) {
            will("trace", to(9));
        }
        will("count", 5);
        int shelf = to(5);
        will("keep", shelf, to(model.bodies.size()));
        will("taken", shelf, to(7));
    }

    private void changes() {
        for (int left = to(6); left >= 0; left--) {
            will(random.nextInt(3) == 0 ? "redo" : "undo");
        }
        for (int left = to(3); left >= 0; left--) {
            will("redo");
        }
    }

    private void shifts() {
        int from = to(5);
        int to = to(5);
        int sort = to(4);
        will("row", from, sort, to(12));
        will("row", to, sort, to(12));
        for (int k = 0; k < 8; k++) {
            will("put", from, to(9), random.nextLong());
        }
        for (int k = 0; k < 4; k++) {
            will("shift", from, to(4), random.nextBoolean() ? from : to, to(4), to(6));
            will("element", to, to(8));
            will("element", from, to(8));
        }
    }

    int to(int most) {
        return random.nextInt(most + 1);
    }

    private int edge() {
        return random.nextInt(3) == 0 ? random.nextInt() : EDGES[random.nextInt(EDGES.length)];
    }

    private long loose(int least, int most) {
        return random.nextInt(boldness) == 0 ? edge() : least + random.nextInt(most - least + 1);
    }

    /** The number of the next call, then its arguments. */
    long[] call(Model model) {
        if (!waiting.isEmpty() && random.nextInt(25) != 0) {
            return waiting.remove(0);
        }
        if (waiting.isEmpty() && random.nextInt(12) == 0) {
            switch (random.nextInt(10)) {
                case 0: law(); break;
                case 1: case 2: bill(model); break;
                case 3: folkRow(); break;
                case 4: case 5: acts(model); break;
                case 6: case 7: changes(); break;
                default: shifts(); break;
            }
        }
        int which = random.nextInt(4) == 0 ? 2 : random.nextInt(43);
        which = which < 2 && random.nextInt(20) != 0 || which == 5 && random.nextInt(6) != 0 ? 2 : which;
        long[] arguments = arguments(which, model);
        long[] call = new long[arguments.length + 1];
        call[0] = which;
        System.arraycopy(arguments, 0, call, 1, arguments.length);
        return call;
    }

    private long[] arguments(int which, Model model) {
        int folk = Math.max(0, model.folk.size() - 1);
        switch (Calls.NAMES[which]) {
            case "person": return new long[] {random.nextInt(boldness) == 0 ? edge() : 10 * to(9) + to(3)};
            case "people": return new long[] {loose(0, 5), loose(0, 12), loose(1, 8)};
            case "mend": return mend(folk);
            case "of": return mendless(folk);
            case "feed": return new long[] {loose(0, 255)};
            case "counts": case "share": case "worth": case "broke": return new long[] {loose(0, folk)};
            case "bill": return new long[] {loose(0, 1)};
            case "best": return new long[] {loose(0, folk), loose(0, 1)};
            case "rest": return new long[] {loose(-1, folk)};
            case "pool": {
                int one = (int) loose(0, folk);
                long bit = random.nextInt(5) != 0 ? 1L << Math.floorMod(one, 8) : 0;
                return new long[] {loose(0, (1 << folk + 1) - 1) | bit, one};
            }
            case "later": {
                int what = (int) loose(0, 4);
                return new long[] {loose(0, 60), what < 2 ? loose(0, folk) : loose(0, 0), what};
            }
            case "thrift": return new long[] {loose(0, folk), loose(0, 40), loose(0, 1)};
            case "judge": return new long[] {loose(0, 5)};
            case "fits": {
                int what = (int) loose(0, 5);
                return new long[] {loose(0, 5), what < 2 ? loose(0, folk) : loose(0, 0), what};
            }
            case "said": return new long[] {loose(0, 2)};
            case "byTurns": return new long[] {loose(0, folk), loose(1, 3), loose(0, 1)};
            case "drawn": {
                long nmm = 10000 * (1 + to(random.nextInt(9) == 0 ? 30 : 4)) + 100 * to(random.nextInt(3) == 0 ? 41 : 9) + to(13);
                return new long[] {random.nextInt(), random.nextInt(boldness) == 0 ? edge() : nmm, loose(-1, folk)};
            }
            default: return deedArguments(which, model, folk);
        }
    }

    private long[] deedArguments(int which, Model model, int folk) {
        switch (Calls.NAMES[which]) {
            case "takes": return new long[] {loose(0, folk), loose(0, 3)};
            case "hears": return new long[] {loose(0, folk), loose(0, 1)};
            case "gives": return new long[] {loose(0, folk), loose(0, folk), random.nextInt(4) == 0 ? loose(1, 9999) : loose(1, 120)};
            case "led": case "count": return new long[] {loose(0, 5)};
            case "body": return new long[] {loose(0, 7)};
            case "act": return new long[] {loose(0, Math.max(0, model.bodies.size() - 1)), loose(0, 3), random.nextBoolean() ? random.nextInt() : to(20)};
            case "trace": return new long[] {loose(0, 10)};
            case "keep": return new long[] {loose(0, 5), loose(-1, Math.max(0, model.bodies.size() - 1))};
            case "row": return new long[] {loose(0, 5), random.nextInt(3) == 0 ? loose(0, 4) : to(1), random.nextBoolean() ? loose(0, 60) : to(9)};
            case "put": return new long[] {loose(0, 5), loose(0, 9), random.nextInt(3) == 0 ? random.nextLong() : to(99)};
            case "element": return new long[] {loose(0, 5), loose(0, 20)};
            case "shift": return new long[] {loose(0, 5), loose(0, 8), loose(0, 5), loose(0, 8), loose(0, 12)};
            case "taken": return new long[] {loose(0, 5), loose(0, 7)};
            default: return new long[0];
        }
    }

    private long[] mendless(int folk) {
        int what = (int) loose(0, 10);
        return new long[] {what < 7 ? loose(0, folk) : what == 7 ? loose(0, 7) : loose(0, 0), what};
    }

    private long[] mend(int folk) {
        long[] two = mendless(folk);
        int what = (int) two[1];
        int most = what < 0 || what > 10 ? 9 : Model.MOST[what];
        long v = what == 1 && random.nextBoolean() ? to(300) : what == 6 && random.nextInt(3) == 0 ? 0 : loose(0, most);
        return new long[] {two[0], two[1], v};
    }
}

/** Texts of laws, most of them whole. */
final class Texts {
    static String draw(Random random) {
        StringBuilder made = new StringBuilder();
        int lines = 1 + random.nextInt(3);
        for (int line = 0; line < lines; line++) {
            made.append(line == 0 ? "" : ";");
            made.append(rung(random, 0, 5));
            made.append(random.nextInt(3) != 0 && lines > 1 ? "?" + rung(random, 0, 5) : "");
        }
        int harm = random.nextInt(4);
        if (harm == 0 && made.length() > 0) {
            int at = random.nextInt(made.length());
            made.setCharAt(at, "()!-+*/%<=>&|?;0123456789kwaosgx ".charAt(random.nextInt(33)));
        } else if (harm == 1 && random.nextBoolean()) {
            made.setLength(random.nextInt(made.length() + 1));
        } else if (harm == 2 && random.nextInt(3) == 0) {
            made.insert(random.nextInt(made.length() + 1), "!-(((".substring(random.nextInt(4)));
        }
        return made.length() > 120 ? made.substring(0, 100 + random.nextInt(21)) : made.toString();
    }

    private static final String[] SIGNS = {"|", "&", "<=>", "+-", "*/%"};

    private static String rung(Random random, int rung, int depth) {
        if (rung == 5) {
            return operand(random, depth);
        }
        StringBuilder made = new StringBuilder(rung(random, rung + 1, depth));
        int more = random.nextInt(rung < 3 ? 5 : 3) == 0 ? 1 : 0;
        for (int k = 0; k < more; k++) {
            made.append(SIGNS[rung].charAt(random.nextInt(SIGNS[rung].length()))).append(rung(random, rung + 1, depth));
        }
        return made.toString();
    }

    private static String operand(Random random, int depth) {
        int sort = random.nextInt(10);
        if (sort < 3 || depth == 0) {
            return String.valueOf(random.nextInt(random.nextInt(6) == 0 ? 10000 : 12));
        }
        if (sort < 8) {
            return String.valueOf("kwaosg".charAt(random.nextInt(6)));
        }
        if (sort == 8) {
            return "(" + rung(random, 0, depth - 1) + ")";
        }
        return (random.nextBoolean() ? "!" : "-") + operand(random, depth - 1);
    }
}

/** One of the people of the model. */
final class One {
    int wish = 5, purse = 100, age = 30, habit = 0, kind = 0, heard = 1, earns = 10;

    One like() {
        One o = new One();
        for (int what = 0; what < 7; what++) {
            o.set(what, get(what));
        }
        return o;
    }

    int get(int what) {
        return new int[] {wish, purse, age, habit, kind, heard, earns}[what];
    }

    void set(int what, int v) {
        switch (what) {
            case 0: wish = v; break;
            case 1: purse = v; break;
            case 2: age = v; break;
            case 3: habit = v; break;
            case 4: kind = v; break;
            case 5: heard = v; break;
            default: earns = v; break;
        }
    }

    boolean says() {
        return habit == 1 || habit == 2;
    }

    boolean goes() {
        return habit == 2 || habit == 3;
    }
}

/** The law, worked out by parting its text at the sign that binds least; its fault by going along it sign by sign. */
final class Law {
    static int fault(String t) {
        boolean wantsOperand = true;
        boolean compared = false;
        boolean asked = false;
        int pending = 0;
        int digits = 0;
        List<int[]> frames = new ArrayList<>();
        for (int i = 0; i < t.length(); i++) {
            char c = t.charAt(i);
            boolean digit = c >= '0' && c <= '9';
            if (digit && digits > 0 && digits < 4) {
                digits++;
                continue;
            }
            digits = 0;
            if (wantsOperand) {
                int open = pending + frames.size();
                for (int[] frame : frames) {
                    open += frame[0];
                }
                if (digit || "kwaosg".indexOf(c) >= 0) {
                    digits = digit ? 1 : 0;
                    wantsOperand = false;
                    pending = 0;
                } else if ((c == '!' || c == '-') && open < 6) {
                    pending++;
                } else if (c == '(' && open < 6) {
                    frames.add(new int[] {pending, compared ? 1 : 0});
                    pending = 0;
                    compared = false;
                } else {
                    return i;
                }
                continue;
            }
            if (c == ')' && !frames.isEmpty()) {
                compared = frames.remove(frames.size() - 1)[1] == 1;
            } else if ("+-*/%".indexOf(c) >= 0) {
                wantsOperand = true;
            } else if ("<=>".indexOf(c) >= 0 && !compared) {
                wantsOperand = true;
                compared = true;
            } else if (c == '&' || c == '|') {
                wantsOperand = true;
                compared = false;
            } else if (c == ';' && frames.isEmpty() || c == '?' && frames.isEmpty() && !asked) {
                wantsOperand = true;
                compared = false;
                asked = c == '?';
            } else {
                return i;
            }
        }
        return wantsOperand || !frames.isEmpty() ? t.length() : -1;
    }

    static int value(String text, int[] names) {
        for (String line : text.split(";", -1)) {
            int ask = line.indexOf('?');
            if (ask < 0) {
                return part(line, names);
            }
            if (part(line.substring(0, ask), names) != 0) {
                return part(line.substring(ask + 1), names);
            }
        }
        return 0;
    }

    private static int part(String t, int[] names) {
        for (String signs : new String[] {"|", "&", "<=>", "+-", "*/%"}) {
            int depth = 0;
            for (int i = t.length() - 1; i > 0; i--) {
                char c = t.charAt(i);
                depth += c == ')' ? 1 : c == '(' ? -1 : 0;
                boolean behindOperand = "!(+-*/%<=>&|".indexOf(t.charAt(i - 1)) < 0;
                if (depth == 0 && signs.indexOf(c) >= 0 && behindOperand) {
                    return join(c, part(t.substring(0, i), names), part(t.substring(i + 1), names));
                }
            }
        }
        char first = t.charAt(0);
        if (first == '!') {
            return part(t.substring(1), names) == 0 ? 1 : 0;
        }
        if (first == '-') {
            return -part(t.substring(1), names);
        }
        if (first == '(') {
            return part(t.substring(1, t.length() - 1), names);
        }
        int name = "kwaosg".indexOf(first);
        return name >= 0 ? names[name] : Integer.parseInt(t);
    }

    private static int join(char sign, int a, int b) {
        switch (sign) {
            case '|': return a != 0 || b != 0 ? 1 : 0;
            case '&': return a != 0 && b != 0 ? 1 : 0;
            case '<': return a < b ? 1 : 0;
            case '=': return a == b ? 1 : 0;
            case '>': return a > b ? 1 : 0;
            case '+': return a + b;
            case '-': return a - b;
            case '*': return a * b;
            case '/': return b == 0 ? 0 : a / b;
            default: return b == 0 ? 0 : a % b;
        }
    }
}

/** A state that years can go through: copied whole for each thought. */
final class State {
    List<One> folk = new ArrayList<>();
    int[] snow = {20, 20, 20, 20, 20, 20, 20, 20};
    int year = 0, rate = 10, boast = 10;
    String law = null;
    long paid = 0, lacking = 0;

    State like() {
        State s = new State();
        for (One o : folk) {
            s.folk.add(o.like());
        }
        s.snow = snow.clone();
        s.year = year;
        s.rate = rate;
        s.boast = boast;
        s.law = law;
        return s;
    }

    int snowNow() {
        return snow[year % 8];
    }

    int counts(int one) {
        One him = folk.get(one);
        int others = 0;
        int going = 0;
        for (One o : folk) {
            others += o != him && o.says() ? 1 : 0;
            going += o.goes() ? 1 : 0;
        }
        int v = law == null ? 5 - him.kind + him.wish / 3
            : Law.value(law, new int[] {him.kind, him.wish, him.age, others, snowNow(), going});
        return v < 0 ? 0 : v > 20 ? 20 : v;
    }

    int assessed(int one) {
        return folk.get(one).habit == 1 && folk.get(one).heard == 1 ? counts(one) : 0;
    }

    int[] shares() {
        int[] by = new int[folk.size()];
        for (int one = 0; one < by.length; one++) {
            by[one] = assessed(one);
        }
        int all = Arrays.stream(by).sum();
        int[] shares = new int[by.length];
        for (int one = 0; one < by.length && all > 0; one++) {
            shares[one] = (int) ((long) snowNow() * rate * by[one] / all);
        }
        return shares;
    }

    int worth(int one) {
        One him = folk.get(one);
        return (him.goes() ? 10 * him.wish - snowNow() / 2 : 0) + (him.says() ? boast : 0) - shares()[one];
    }

    int worthBy(int one, int habit) {
        State s = like();
        s.folk.get(one).habit = habit;
        return s.worth(one);
    }

    boolean rests() {
        for (int one = 0; one < folk.size(); one++) {
            int worth = worth(one);
            for (int habit = 0; habit < 4; habit++) {
                if (worthBy(one, habit) > worth) {
                    return false;
                }
            }
        }
        return true;
    }

    void end() {
        int[] shares = shares();
        for (int one = 0; one < folk.size(); one++) {
            One him = folk.get(one);
            paid += shares[one];
            int owes = shares[one] + (him.goes() ? snowNow() / 2 : 0);
            if (owes > him.purse) {
                lacking += owes - him.purse;
                him.purse = 0;
            } else {
                him.purse -= owes;
            }
            him.purse = Math.min(9999, him.purse + him.earns);
            him.age = Math.min(99, him.age + 1);
        }
        year = Math.min(199, year + 1);
    }

    State after(int n) {
        State s = like();
        for (int k = 0; k < n; k++) {
            s.end();
        }
        return s;
    }
}

/** The document, as plainly as it goes. */
final class Model {
    static final int BAD = -1, NOT = -2, FULL = -3, STATE = -5, VOID = -2000000000;
    static final int[] LEAST = {0, 0, 0, 0, 0, 0, 0, 0, 0, 1, 0};
    static final int[] MOST = {9, 9999, 99, 3, 4, 1, 99, 99, 199, 99, 99};

    State s = new State();
    List<One> folk = s.folk;
    StringBuilder tape = new StringBuilder();
    long[] led = new long[6];
    State imaged = null;
    long[] imagedLed = null;
    List<int[]> done = new ArrayList<>();
    List<int[]> undone = new ArrayList<>();
    List<Integer> bodies = new ArrayList<>();
    List<Integer> trace = new ArrayList<>();
    /** null, an Integer (a BODY), or {sort, long[]}. */
    Object[] shelves = new Object[6];

    private boolean no(int one) {
        return one < 0 || one >= folk.size();
    }

    int person(int wh) {
        if (wh < 0 || wh > 99 || wh % 10 > 3) {
            return BAD;
        }
        return come(wh / 10, 30, wh % 10) ? folk.size() - 1 : FULL;
    }

    private boolean come(int wish, int age, int habit) {
        if (folk.size() == 8) {
            return false;
        }
        One o = new One();
        o.wish = wish;
        o.age = age;
        o.habit = habit;
        return folk.add(o);
    }

    int people(int shelf, int i, int n) {
        if (shelf < 0 || shelf > 5 || n < 1 || n > 8) {
            return BAD;
        }
        if (shelves[shelf] == null) {
            return 0;
        }
        if (!isRow(shelf) || sort(shelf) != 0) {
            return -12;
        }
        long[] row = elements(shelf);
        int came = 0;
        for (long at = i; came < n && at >= 0 && at + 2 < row.length; at += 3) {
            long w = row[(int) at];
            long a = row[(int) at + 1];
            long h = row[(int) at + 2];
            if (w < 0 || w > 9 || a < 0 || a > 99 || h < 0 || h > 3 || !come((int) w, (int) a, (int) h)) {
                break;
            }
            came++;
        }
        return came;
    }

    private boolean isNumber(int number, int what) {
        return what >= 0 && what <= 10 && number >= 0 && number < (what < 7 ? folk.size() : what == 7 ? 8 : 1);
    }

    int of(int number, int what) {
        if (!isNumber(number, what)) {
            return BAD;
        }
        return what < 7 ? folk.get(number).get(what) : what == 7 ? s.snow[number] : what == 8 ? s.year : what == 9 ? s.rate : s.boast;
    }

    private void become(int number, int what, int v) {
        if (what < 7) {
            folk.get(number).set(what, v);
        } else if (what == 7) {
            s.snow[number] = v;
        } else if (what == 8) {
            s.year = v;
        } else if (what == 9) {
            s.rate = v;
        } else {
            s.boast = v;
        }
    }

    int mend(int number, int what, int v) {
        if (!isNumber(number, what) || v < LEAST[what] || v > MOST[what]) {
            return BAD;
        }
        int was = of(number, what);
        if (was != v) {
            become(number, what, v);
            done.add(new int[] {number, what, was, v});
            undone.clear();
            if (done.size() > 40) {
                done.remove(0);
            }
        }
        return was;
    }

    int undo() {
        if (done.isEmpty()) {
            return STATE;
        }
        int[] change = done.remove(done.size() - 1);
        become(change[0], change[1], change[2]);
        undone.add(change);
        return done.size();
    }

    int redo() {
        if (undone.isEmpty()) {
            return STATE;
        }
        int[] change = undone.remove(undone.size() - 1);
        become(change[0], change[1], change[3]);
        done.add(change);
        return undone.size();
    }

    int feed(int letter) {
        if (letter < 0 || letter > 255) {
            return BAD;
        }
        if (tape.length() == 120) {
            return FULL;
        }
        return tape.append((char) letter).length();
    }

    int law() {
        String text = tape.toString();
        tape.setLength(0);
        int fault = Law.fault(text);
        if (fault < 0) {
            s.law = text;
        }
        return fault < 0 ? 1 : -100 - fault;
    }

    int counts(int one) {
        return no(one) ? BAD : s.counts(one);
    }

    int bill(int what) {
        int bill = s.snowNow() * s.rate;
        return what == 0 ? bill : what == 1 ? bill - Arrays.stream(s.shares()).sum() : BAD;
    }

    int share(int one) {
        return no(one) ? BAD : s.shares()[one];
    }

    int worth(int one) {
        return no(one) ? VOID : s.worth(one);
    }

    int best(int one, int what) {
        if (no(one) || what < 0 || what > 1) {
            return VOID;
        }
        int best = 0;
        for (int habit = 3; habit >= 0; habit--) {
            best = s.worthBy(one, habit) >= s.worthBy(one, best) ? habit : best;
        }
        for (int habit = 0; habit < 4; habit++) {
            best = s.worthBy(one, habit) > s.worthBy(one, best) ? habit : best;
        }
        return what == 0 ? best : s.worthBy(one, best);
    }

    int atRest() {
        return s.rests() ? 1 : 0;
    }

    private void rows(State t, int at, List<int[]> found) {
        if (at == t.folk.size()) {
            if (t.rests()) {
                found.add(t.folk.stream().mapToInt(o -> o.habit).toArray());
            }
            return;
        }
        for (int habit = 0; habit < 4; habit++) {
            t.folk.get(at).habit = habit;
            rows(t, at + 1, found);
        }
    }

    int rest(int k) {
        if (k < -1 || k >= folk.size()) {
            return BAD;
        }
        if (folk.size() > 4) {
            return STATE;
        }
        List<int[]> found = new ArrayList<>();
        rows(s.like(), 0, found);
        return k == -1 ? found.size() : found.isEmpty() ? NOT : found.get(0)[k];
    }

    int freeRate() {
        for (int rate = 1; rate <= 99; rate++) {
            State t = s.like();
            t.rate = rate;
            boolean all = true;
            for (int one = 0; one < folk.size(); one++) {
                boolean he = folk.get(one).habit == 1 && folk.get(one).heard == 1;
                all &= !he || t.worthBy(one, 2) >= t.worthBy(one, 1);
            }
            if (all) {
                return rate;
            }
        }
        return NOT;
    }

    int pool(int set, int one) {
        if (no(one) || set < 0 || set >= 1 << folk.size() || (set & 1 << one) == 0) {
            return VOID;
        }
        double sum = 0;
        int[] shares = s.shares();
        for (int other = 0; other < folk.size(); other++) {
            sum += (set & 1 << other) != 0 ? shares[other] : 0;
        }
        return shares[one] - (int) Math.ceil(sum / Integer.bitCount(set));
    }

    int spared() {
        int set = 0;
        for (int one = 0; one < folk.size(); one++) {
            set += s.assessed(one) > 0 ? 1 << one : 0;
        }
        int bits = 0;
        for (int one = 0; one < folk.size(); one++) {
            bits += (set & 1 << one) != 0 && pool(set, one) > 0 ? 1 << one : 0;
        }
        return bits;
    }

    int later(int n, int one, int what) {
        if (n < 0 || n > 60 || what < 0 || what > 4 || (what < 2 ? no(one) : one != 0)) {
            return BAD;
        }
        State t = s.after(n);
        switch (what) {
            case 0: return t.folk.get(one).purse;
            case 1: return t.folk.get(one).age;
            case 2: return (int) t.paid;
            case 3: return (int) t.lacking;
            default: return t.snowNow() * t.rate;
        }
    }

    int broke(int one) {
        if (no(one)) {
            return BAD;
        }
        State t = s.like();
        for (int n = 0; n <= 60; n++, t.end()) {
            if (t.folk.get(one).purse == 0) {
                return n;
            }
        }
        return NOT;
    }

    int thrift(int one, int n, int what) {
        if (no(one) || n < 0 || n > 40 || what < 0 || what > 1) {
            return BAD;
        }
        int best = -1;
        int most = -1;
        for (int habit = 0; habit < 4; habit++) {
            State t = s.like();
            t.folk.get(one).habit = habit;
            int purse = t.after(n).folk.get(one).purse;
            if (purse > most) {
                most = purse;
                best = habit;
            }
        }
        return what == 0 ? best : most;
    }

    private int refusal(int shelf) {
        if (shelf < 0 || shelf > 5) {
            return BAD;
        }
        return shelves[shelf] == null ? -11 : !isRow(shelf) || sort(shelf) != 1 ? -12 : 0;
    }

    private List<int[]> twos(int shelf) {
        List<int[]> twos = new ArrayList<>();
        long[] row = elements(shelf);
        for (int i = 0; i + 1 < row.length && twos.size() < 20; i += 2) {
            if (no((int) row[i]) || row[i + 1] < 0) {
                break;
            }
            twos.add(new int[] {(int) row[i], (int) row[i + 1]});
        }
        return twos;
    }

    private int firstWrong(State t, int shelf) {
        int[] shares = t.shares();
        int two = 0;
        for (int[] told : twos(shelf)) {
            if (shares[told[0]] != told[1]) {
                return two;
            }
            two++;
        }
        return NOT;
    }

    int judge(int shelf) {
        return refusal(shelf) != 0 ? refusal(shelf) : firstWrong(s, shelf);
    }

    int fits(int shelf, int one, int what) {
        if (what < 0 || what > 5 || (what < 2 ? no(one) : one != 0)) {
            return BAD;
        }
        if (refusal(shelf) != 0) {
            return refusal(shelf);
        }
        int tries = what == 0 ? 4 : what == 1 ? 5 : what < 4 ? 100 : 1 << folk.size();
        int many = 0;
        int bits = 0;
        int least = NOT;
        for (int v = tries - 1; v >= 0; v--) {
            State t = s.like();
            if (what < 2) {
                t.folk.get(one).set(3 + what, v);
            } else if (what < 4) {
                t.snow[t.year % 8] = v;
            } else {
                for (int other = 0; other < folk.size(); other++) {
                    t.folk.get(other).heard = v >> other & 1;
                }
            }
            if (firstWrong(t, shelf) == NOT) {
                many++;
                bits |= what < 2 ? 1 << v : 0;
                least = v;
            }
        }
        return what < 2 ? bits : what % 2 == 0 ? many : least;
    }

    int said(int what) {
        int[] shares = s.shares();
        if (what == 0) {
            int fewest = 8;
            for (int set = 0; set < 1 << folk.size(); set++) {
                State t = s.like();
                for (int one = 0; one < folk.size(); one++) {
                    t.folk.get(one).habit = (set & 1 << one) != 0 ? 0 : t.folk.get(one).habit;
                }
                int all = 0;
                for (int one = 0; one < folk.size(); one++) {
                    all += t.assessed(one);
                }
                fewest = all == 0 ? Math.min(fewest, Integer.bitCount(set)) : fewest;
            }
            return fewest;
        }
        if (what == 1) {
            int most = Arrays.stream(shares).max().orElse(0);
            for (int one = 0; one < shares.length && most > 0; one++) {
                if (shares[one] == most) {
                    return one;
                }
            }
            return NOT;
        }
        int pairs = 0;
        for (int one = 0; one < shares.length; one++) {
            for (int other = 0; other < one; other++) {
                pairs += shares[one] > 0 && shares[one] == shares[other] ? 1 : 0;
            }
        }
        return what == 2 ? pairs : BAD;
    }

    /** {the SHARE, whom} of the best play, the clerk's turns being the even ones. */
    private int[] play(State t, int one, int turn, int n) {
        if (turn == n) {
            return new int[] {t.shares()[one], 8};
        }
        int[] best = {play(t, one, turn + 1, n)[0], 8};
        for (int other = 0; other < folk.size(); other++) {
            One o = t.folk.get(other);
            o.heard = 1 - o.heard;
            int v = play(t, one, turn + 1, n)[0];
            o.heard = 1 - o.heard;
            if (turn % 2 == 0 ? v > best[0] : v < best[0]) {
                best = new int[] {v, other};
            }
        }
        return best;
    }

    int byTurns(int one, int n, int what) {
        return no(one) || n < 1 || n > 3 || what < 0 || what > 1 ? BAD : play(s.like(), one, 0, n)[what];
    }

    int drawn(int seed, int nmm, int one) {
        int n = nmm / 10000;
        int m = nmm % 10000 / 100;
        int moods = nmm % 100;
        if (nmm < 0 || n < 1 || n > 30 || m < 1 || m > 40 || moods > 12 || one < -1 || one >= folk.size()) {
            return BAD;
        }
        int z = seed;
        long paid = 0;
        long purses = 0;
        for (int life = 0; life < n; life++) {
            State t = s.like();
            for (int year = 0; year < m; year++) {
                z = z * 1103515245 + 12345;
                t.snow[t.year % 8] = (z >>> 8) % 100;
                if (!folk.isEmpty() && (z >>> 24) % 12 < moods) {
                    t.folk.get((z >>> 16) % folk.size()).habit = (z >>> 20) % 4;
                }
                t.end();
            }
            paid += t.paid;
            purses += one < 0 ? 0 : t.folk.get(one).purse;
        }
        return (int) (one == -1 ? paid : purses);
    }

    int takes(int one, int habit) {
        if (no(one) || habit < 0 || habit > 3) {
            return BAD;
        }
        led[0]++;
        int was = folk.get(one).habit;
        folk.get(one).habit = habit;
        return was;
    }

    int hears(int one, int how) {
        if (no(one) || how < 0 || how > 1) {
            return BAD;
        }
        led[1] += how == 1 ? 1 : 0;
        int was = folk.get(one).heard;
        folk.get(one).heard = how;
        return was;
    }

    int year() {
        s.paid = 0;
        s.lacking = 0;
        s.end();
        led[2]++;
        led[3] += s.paid;
        led[4] += s.lacking;
        return (int) s.paid;
    }

    int gives(int one, int other, int v) {
        if (no(one) || no(other) || one == other || v < 1 || v > 9999) {
            return BAD;
        }
        if (folk.get(one).purse < v || folk.get(other).purse + v > 9999) {
            return STATE;
        }
        folk.get(other).purse += v;
        led[5] += v;
        return folk.get(one).purse -= v;
    }

    int led(int what) {
        return what < 0 || what > 5 ? BAD : (int) led[what];
    }

    int image() {
        imaged = s.like();
        imagedLed = led.clone();
        return (int) led[2];
    }

    int back() {
        if (imaged == null) {
            return STATE;
        }
        for (int one = 0; one < imaged.folk.size(); one++) {
            for (int what : new int[] {1, 2, 3, 5}) {
                folk.get(one).set(what, imaged.folk.get(one).get(what));
            }
        }
        s.year = imaged.year;
        led = imagedLed.clone();
        return (int) led[2];
    }

    int body(int kind) {
        if (kind < 0 || kind > 7) {
            return BAD;
        }
        if (bodies.size() == 50) {
            return FULL;
        }
        bodies.add(kind);
        return bodies.size() - 1;
    }

    int act(int body, int act, int x) {
        trace.clear();
        if (body < 0 || body >= bodies.size() || act < 0 || act > 3) {
            return 0;
        }
        Saying him = Saying.of(bodies.get(body), body, trace);
        return act == 0 ? him.says(x) : act == 1 ? him.counts(x) : act == 2 ? him.goes(x) : him.tells(x);
    }

    int trace(int i) {
        return i < 0 || i >= Math.min(24, trace.size()) ? BAD : trace.get(i);
    }

    private boolean isRow(int shelf) {
        return shelves[shelf] instanceof Object[];
    }

    private int sort(int shelf) {
        return (Integer) ((Object[]) shelves[shelf])[0];
    }

    private long[] elements(int shelf) {
        return (long[]) ((Object[]) shelves[shelf])[1];
    }

    int keep(int shelf, int body) {
        if (shelf < 0 || shelf > 5 || body < -1 || body >= bodies.size()) {
            return BAD;
        }
        shelves[shelf] = body == -1 ? null : (Object) body;
        return 1;
    }

    int row(int shelf, int sort, int n) {
        if (shelf < 0 || shelf > 5 || sort < 0 || sort > 4 || n > 60) {
            return BAD;
        }
        if (n < 0) {
            return -14;
        }
        shelves[shelf] = new Object[] {sort, new long[n]};
        return 1;
    }

    int put(int shelf, int i, long v) {
        if (shelf < 0 || shelf > 5) {
            return BAD;
        }
        if (shelves[shelf] == null) {
            return -11;
        }
        if (!isRow(shelf)) {
            return -12;
        }
        if (i < 0 || i >= elements(shelf).length) {
            return -13;
        }
        long[] kept = {(byte) v, (short) v, (int) v, v, v == 0 ? 0 : 1};
        elements(shelf)[i] = kept[sort(shelf)];
        return 1;
    }

    long element(int shelf, int i) {
        if (shelf < 0 || shelf > 5 || !isRow(shelf) || i < 0 || i >= elements(shelf).length) {
            return Long.MIN_VALUE;
        }
        return elements(shelf)[i];
    }

    int shift(int shelf, int i, int other, int j, int n) {
        if (shelf < 0 || shelf > 5 || other < 0 || other > 5) {
            return BAD;
        }
        if (shelves[shelf] == null || shelves[other] == null) {
            return -11;
        }
        if (!isRow(shelf) || !isRow(other) || sort(shelf) != sort(other)) {
            return -12;
        }
        long[] from = elements(shelf).clone();
        long[] to = elements(other);
        if (i < 0 || j < 0 || n < 0 || (long) i + n > from.length || (long) j + n > to.length) {
            return -13;
        }
        for (int k = 0; k < n; k++) {
            to[j + k] = from[i + k];
        }
        return n;
    }

    int taken(int shelf, int k) {
        if (shelf < 0 || shelf > 5 || k < 0 || k > 7) {
            return BAD;
        }
        if (shelves[shelf] == null) {
            return -11;
        }
        if (isRow(shelf)) {
            return -12;
        }
        int kind = bodies.get((Integer) shelves[shelf]);
        Class<?> wanted = Saying.of(k, 0, trace).getClass();
        return wanted.isInstance(Saying.of(kind, 0, trace)) ? kind : -12;
    }

    int count(int what) {
        int assessed = 0;
        for (int one = 0; one < folk.size(); one++) {
            assessed += s.assessed(one) > 0 ? 1 : 0;
        }
        int[] all = {folk.size(), assessed, tape.length(), done.size(), bodies.size(), trace.size()};
        return what < 0 || what > 5 ? BAD : all[what];
    }
}

/** The bodies of acts as Java itself has them: interfaces with bodies of their own, and super. */
interface Says {
    int number();

    void ran(int body);

    default int says(int x) {
        ran(1);
        return x + number();
    }
}

interface Tells {
    int counts(int x);

    int goes(int x);

    void ran(int body);

    default int tells(int x) {
        ran(2);
        return counts(x) - goes(1);
    }
}

class Saying implements Says, Tells {
    private int n;
    private List<Integer> trace;

    static Saying of(int kind, int n, List<Integer> trace) {
        Saying[] all = {new Saying(), new Boast(), new Sigh(), new Sleep(), new Poem(), new Dead(), new Night(), new Stocking()};
        all[kind].n = n;
        all[kind].trace = trace;
        return all[kind];
    }

    public int number() {
        return n;
    }

    public void ran(int body) {
        trace.add(body);
    }

    public int counts(int x) {
        ran(10);
        return says(x) * 2;
    }

    public int goes(int x) {
        ran(11);
        return x ^ n;
    }
}

class Boast extends Saying {
    public int says(int x) {
        ran(20);
        return super.says(x) + 3;
    }
}

class Sigh extends Saying {
    public int counts(int x) {
        ran(30);
        return -super.counts(x);
    }
}

class Sleep extends Sigh {
    public int goes(int x) {
        ran(40);
        return super.goes(x) * 3;
    }

    public int counts(int x) {
        ran(41);
        return super.counts(x + 1);
    }
}

class Poem extends Boast {
    public int tells(int x) {
        ran(50);
        return super.tells(x) ^ 5;
    }
}

class Dead extends Sleep {
    public int goes(int x) {
        ran(60);
        return super.goes(x) - says(2);
    }

    public int tells(int x) {
        ran(61);
        return super.tells(x) + 1;
    }
}

class Night extends Saying {
    public int says(int x) {
        ran(70);
        return super.says(x) * 2;
    }
}

class Stocking extends Night {
    public int counts(int x) {
        ran(80);
        return super.counts(x) + goes(2);
    }

    public int says(int x) {
        ran(81);
        return super.says(x) - 1;
    }
}

/** The same call on either. */
final class Calls {
    static final String[] NAMES = {"person", "people", "mend", "of", "feed", "law", "counts", "bill", "share", "worth", "best",
        "atRest", "rest", "freeRate", "pool", "spared", "later", "broke", "thrift", "judge", "fits", "said", "byTurns", "drawn",
        "takes", "hears", "year", "gives", "led", "image", "back", "undo", "redo", "body", "act", "trace", "keep", "row", "put",
        "element", "shift", "taken", "count"};

    private static int at(long[] a, int i) {
        return i < a.length ? (int) a[i] : 0;
    }

    static long of(PassBill x, int which, long[] l) {
        int a = at(l, 0);
        int b = at(l, 1);
        int c = at(l, 2);
        switch (NAMES[which]) {
            case "person": return x.person(a);
            case "people": return x.people(a, b, c);
            case "mend": return x.mend(a, b, c);
            case "of": return x.of(a, b);
            case "feed": return x.feed(a);
            case "law": return x.law();
            case "counts": return x.counts(a);
            case "bill": return x.bill(a);
            case "share": return x.share(a);
            case "worth": return x.worth(a);
            case "best": return x.best(a, b);
            case "atRest": return x.atRest();
            case "rest": return x.rest(a);
            case "freeRate": return x.freeRate();
            case "pool": return x.pool(a, b);
            case "spared": return x.spared();
            case "later": return x.later(a, b, c);
            case "broke": return x.broke(a);
            case "thrift": return x.thrift(a, b, c);
            case "judge": return x.judge(a);
            case "fits": return x.fits(a, b, c);
            case "said": return x.said(a);
            case "byTurns": return x.byTurns(a, b, c);
            case "drawn": return x.drawn(a, b, c);
            case "takes": return x.takes(a, b);
            case "hears": return x.hears(a, b);
            case "year": return x.year();
            case "gives": return x.gives(a, b, c);
            case "led": return x.led(a);
            case "image": return x.image();
            case "back": return x.back();
            case "undo": return x.undo();
            case "redo": return x.redo();
            case "body": return x.body(a);
            case "act": return x.act(a, b, c);
            case "trace": return x.trace(a);
            case "keep": return x.keep(a, b);
            case "row": return x.row(a, b, c);
            case "put": return x.put(a, b, l[2]);
            case "element": return x.element(a, b);
            case "shift": return x.shift(a, b, c, at(l, 3), at(l, 4));
            case "taken": return x.taken(a, b);
            case "count": return x.count(a);
            default: throw new IllegalStateException();
        }
    }

    static long of(Model x, int which, long[] l) {
        int a = at(l, 0);
        int b = at(l, 1);
        int c = at(l, 2);
        switch (NAMES[which]) {
            case "person": return x.person(a);
            case "people": return x.people(a, b, c);
            case "mend": return x.mend(a, b, c);
            case "of": return x.of(a, b);
            case "feed": return x.feed(a);
            case "law": return x.law();
            case "counts": return x.counts(a);
            case "bill": return x.bill(a);
            case "share": return x.share(a);
            case "worth": return x.worth(a);
            case "best": return x.best(a, b);
            case "atRest": return x.atRest();
            case "rest": return x.rest(a);
            case "freeRate": return x.freeRate();
            case "pool": return x.pool(a, b);
            case "spared": return x.spared();
            case "later": return x.later(a, b, c);
            case "broke": return x.broke(a);
            case "thrift": return x.thrift(a, b, c);
            case "judge": return x.judge(a);
            case "fits": return x.fits(a, b, c);
            case "said": return x.said(a);
            case "byTurns": return x.byTurns(a, b, c);
            case "drawn": return x.drawn(a, b, c);
            case "takes": return x.takes(a, b);
            case "hears": return x.hears(a, b);
            case "year": return x.year();
            case "gives": return x.gives(a, b, c);
            case "led": return x.led(a);
            case "image": return x.image();
            case "back": return x.back();
            case "undo": return x.undo();
            case "redo": return x.redo();
            case "body": return x.body(a);
            case "act": return x.act(a, b, c);
            case "trace": return x.trace(a);
            case "keep": return x.keep(a, b);
            case "row": return x.row(a, b, c);
            case "put": return x.put(a, b, l[2]);
            case "element": return x.element(a, b);
            case "shift": return x.shift(a, b, c, at(l, 3), at(l, 4));
            case "taken": return x.taken(a, b);
            case "count": return x.count(a);
            default: throw new IllegalStateException();
        }
    }
}
