import java.util.ArrayList;
import java.util.List;
import java.util.NoSuchElementException;
import java.util.Random;
import java.util.function.LongSupplier;

/** Long random runs of calls: the class and the Model must answer alike, ROW and counts too. */
public final class ModelTest {
    private static final int RUNS = 400;
    private static final int CALLS = 300;
    private static final long THROWN = Long.MIN_VALUE;

    private final Random random;
    private final SilentLetters x = new SilentLetters();
    private final Model m = new Model();
    private final List<String> calls = new ArrayList<>();
    private final String alphabet;

    private ModelTest(long seed) {
        random = new Random(seed);
        alphabet = "abcdefgh".substring(0, 2 + random.nextInt(7));
    }

    public static void main(String[] args) {
        int runs = args.length > 0 ? Integer.parseInt(args[0]) : RUNS;
        int wrong = 0;
        for (int run = 0; run < runs && wrong < 5; run++) {
            wrong += new ModelTest(run).differs(run) ? 1 : 0;
        }
        System.out.println(runs + " runs beside the model, " + wrong + " differ");
        if (wrong != 0) {
            System.exit(1);
        }
    }

    private boolean differs(int run) {
        for (int call = 0; call < CALLS; call++) {
            String fault = step();
            fault = fault == null ? stateFault(call) : fault;
            if (fault != null) {
                System.out.println("run " + run + ": " + fault);
                for (String c : calls.subList(Math.max(0, calls.size() - 25), calls.size())) {
                    System.out.println("    " + c);
                }
                return true;
            }
        }
        return false;
    }

    private static long answer(LongSupplier call) {
        try {
            return call.getAsLong();
        } catch (NoSuchElementException e) {
            return THROWN;
        }
    }

    private String pair(String name, LongSupplier mine, LongSupplier theirs) {
        long got = answer(mine);
        long due = answer(theirs);
        calls.add(name + " = " + due);
        return got == due ? null : name + " answered " + got + ", the model " + due;
    }

    private String stateFault(int call) {
        for (int what = 0; what < 12; what++) {
            if (x.count(what) != m.count(what)) {
                return "count(" + what + ") answered " + x.count(what) + ", the model " + m.count(what);
            }
        }
        for (int i = 0; i < m.count(10); i++) {
            if (x.row(i) != m.row(i)) {
                return "row(" + i + ") answered " + x.row(i) + ", the model " + m.row(i);
            }
        }
        return call % 10 == 0 ? deepFault() : null;
    }

    private String deepFault() {
        String fault = null;
        for (int a = -1; a <= 8 && fault == null; a++) {
            for (int b = -1; b <= 8 && fault == null; b++) {
                int i = a;
                int j = b;
                long[] got = {answer(() -> x.word(i, j)), answer(() -> x.at(i, j)), answer(() -> x.letter(i, j))};
                long[] due = {answer(() -> m.word(i, j)), answer(() -> m.at(i, j)), answer(() -> m.letter(i, j))};
                for (int k = 0; k < 3; k++) {
                    if (got[k] != due[k]) {
                        fault = "word, at or letter (" + k + ") of " + i + ", " + j + ": " + got[k] + ", " + due[k];
                    }
                }
            }
        }
        return fault;
    }

    // ---- what is asked

    private int near(int low, int high) {
        int r = random.nextInt(40);
        if (r == 0) {
            return low - 1;
        }
        if (r == 1) {
            return high + 1;
        }
        if (r == 2) {
            return new int[] {Integer.MIN_VALUE, Integer.MAX_VALUE, -1, 256}[random.nextInt(4)];
        }
        return low + random.nextInt(high - low + 1);
    }

    private int word() {
        return near(0, Math.max(0, m.count(0) - 1));
    }

    private String tell(String text) {
        String fault = pair("end(0)", () -> x.end(0) ? 1 : 0, () -> m.end(0) ? 1 : 0);
        for (int i = 0; i < text.length() && fault == null; i += 4) {
            int v = 0;
            for (int j = i; j < i + 4; j++) {
                v = v << 8 | (j < text.length() ? text.charAt(j) & 255 : random.nextInt(256));
            }
            int signs = v;
            fault = pair("sign " + text, () -> x.sign(signs), () -> m.sign(signs));
        }
        int n = text.length();
        return fault != null ? fault : pair("end(" + n + ")", () -> x.end(n) ? 1 : 0, () -> m.end(n) ? 1 : 0);
    }

    private String spoiled(String text, String signs) {
        if (random.nextInt(4) > 0 || text.isEmpty()) {
            return text;
        }
        int p = random.nextInt(text.length());
        char c = random.nextInt(5) == 0 ? (char) random.nextInt(256) : signs.charAt(random.nextInt(signs.length()));
        String end = text.substring(p + random.nextInt(2));
        String spoiled = text.substring(0, p) + (random.nextBoolean() ? c : "") + end;
        return spoiled.length() > 80 ? spoiled.substring(0, 80) : spoiled;
    }

    private String someWords() {
        StringBuilder t = new StringBuilder();
        int lines = 1 + random.nextInt(random.nextInt(3) == 0 ? 9 : 3);
        for (int i = 0; i < lines; i++) {
            t.append(i == 0 ? "" : ";");
            int n = 1 + random.nextInt(random.nextInt(4) == 0 ? 9 : 4);
            for (int j = 0; j < n; j++) {
                char c = alphabet.charAt(random.nextInt(alphabet.length()));
                t.append(random.nextInt(5) < 2 ? (char) (c - 32) : c);
            }
        }
        String s = t.length() > 80 ? t.substring(0, 80) : t.toString();
        return spoiled(s, "aAbB;;hHiI ");
    }

    private String expression(int deep) {
        int r = random.nextInt(deep > 4 ? 3 : 9);
        if (r < 2) {
            return "mousndi".substring(r = random.nextInt(7), r + 1);
        }
        if (r == 2) {
            return "" + random.nextInt(new int[] {3, 12, 1000}[random.nextInt(3)]);
        }
        if (r == 3) {
            return "(" + expression(deep + 1) + ")";
        }
        if (r == 4) {
            return "-" + expression(deep + 1);
        }
        String between = random.nextInt(4) == 0 ? "<>=" : "+-*/";
        char c = between.charAt(random.nextInt(between.length()));
        return expression(deep + 1) + c + expression(deep + 1);
    }

    private String someRule() {
        if (random.nextInt(10) == 0) {
            return "";
        }
        if (random.nextInt(12) == 0) {
            // near the longest
            String t = "m" + "+1".repeat(18 + random.nextInt(3)) + new String[] {"", "+", "+(", "1", "23", "-"}[random.nextInt(6)];
            return t;
        }
        String t = expression(0);
        return spoiled(t.length() > 44 ? t.substring(0, 44) : t, "mousndi0123456789()+-*/<>=z");
    }

    private String someYear() {
        StringBuilder t = new StringBuilder();
        int n = random.nextInt(random.nextInt(5) == 0 ? 26 : 6);
        for (int i = 0; i < n; i++) {
            char l = "abcdefgh".charAt(random.nextInt(8));
            switch (random.nextInt(5)) {
                case 0: t.append('n').append(random.nextInt(10)); break;
                case 1: t.append('o').append(l).append(random.nextInt(10)); break;
                case 2: t.append('r').append(l).append(1 + random.nextInt(3)); break;
                case 3: t.append('q').append(l).append(1 + random.nextInt(3)); break;
                default: t.append('x').append(random.nextInt(Math.max(1, m.count(0)))).append(random.nextInt(3));
            }
        }
        return spoiled(t.toString(), "noqrxabhi0189");
    }

    private String step() {
        int kind = random.nextInt(46);
        if (kind < 12) {
            return change(kind);
        }
        return kind < 30 ? lookAt(kind) : ask(kind);
    }

    private String change(int kind) {
        int a = near(0, 7);
        int w = word();
        int i = near(0, 3);
        int v;
        String fault;
        switch (kind) {
            case 0:
                fault = m.count(0) < 3 || random.nextInt(10) == 0 ? tell(someWords()) : tell("");
                return fault != null ? fault : pair("words()", x::words, m::words);
            case 1:
                fault = random.nextInt(2) == 0 ? null : tell(someRule());
                return fault != null ? fault : pair("rule()", x::rule, m::rule);
            case 2:
                v = random.nextInt(2) == 0 ? near(0, 3) : near(0, 60);
                return pair("days(" + v + ")", () -> x.days(v), () -> m.days(v));
            case 3:
                v = near(0, 9);
                return pair("offer(" + a + ", " + v + ")", () -> x.offer(a, v), () -> m.offer(a, v));
            case 4:
                v = near(-9, 9);
                return pair("stirs(" + a + ", " + v + ")", () -> x.stirs(a, v), () -> m.stirs(a, v));
            case 5:
            case 6:
                return pair("mutes(" + w + ", " + i + ")", () -> x.mutes(w, i), () -> m.mutes(w, i));
            case 7:
                fault = tell(someYear());
                return fault != null ? fault : pair("year()", x::year, m::year);
            case 8:
                return pair("undo()", x::undo, m::undo);
            case 9:
                v = near(0, 2);
                return pair("keep(" + v + ")", () -> x.keep(v) ? 1 : 0, () -> m.keep(v) ? 1 : 0);
            case 10:
                v = near(0, 2);
                return pair("again(" + v + ")", () -> x.again(v) ? 1 : 0, () -> m.again(v) ? 1 : 0);
            default:
                return sheet();
        }
    }

    private String sheet() {
        int kind = near(0, 3);
        int n = near(0, 8);
        int f = random.nextInt(3) == 0 ? random.nextInt() : near(-300, 300);
        int step = random.nextInt(3) == 0 ? random.nextInt() : near(-5, 5);
        return pair("sheet(" + kind + ", " + n + ", " + f + ", " + step + ")",
                () -> x.sheet(kind, n, f, step), () -> m.sheet(kind, n, f, step));
    }

    private String lookAt(int kind) {
        int a = word();
        int b = word();
        int v;
        String two = "(" + a + ", " + b + ")";
        switch (kind) {
            case 12:
                v = near(0, 255);
                return pair("looks(" + a + ", " + v + ")", () -> x.looks(a, v), () -> m.looks(a, v));
            case 13:
                v = near(0, 255);
                return pair("kinds(" + v + ")", () -> x.kinds(v), () -> m.kinds(v));
            case 14:
                return pair("apart" + two, () -> x.apart(a, b), () -> m.apart(a, b));
            case 15:
            case 16:
                v = near(0, random.nextBoolean() ? 2 : 8);
                return pair("chain" + two + v, () -> x.chain(a, b, v), () -> m.chain(a, b, v));
            case 17:
                v = near(0, 99);
                return pair("ahead(" + v + ")", () -> x.ahead(v), () -> m.ahead(v));
            case 18:
                return pair("falls()", x::falls, m::falls);
            case 19:
                v = near(0, 7);
                return pair("when(" + v + ")", () -> x.when(v), () -> m.when(v));
            case 20:
                return pair("shared" + two, () -> x.shared(a, b), () -> m.shared(a, b));
            case 21:
                return pair("crossest()", x::crossest, m::crossest);
            case 22:
            case 23:
                v = near(0, (1 << m.count(0)) - 1);
                return pair("must(" + v + ")", () -> x.must(v), () -> m.must(v));
            case 24:
                return pair("most()", x::most, m::most);
            case 25:
                return pair("joins" + two, () -> x.joins(a, b), () -> m.joins(a, b));
            case 26:
                return pair("safe()", x::safe, m::safe);
            case 27:
            case 28:
                return pair("parts" + two, () -> x.parts(a, b), () -> m.parts(a, b));
            default:
                v = near(0, 11);
                return pair("count(" + v + ")", () -> x.count(v), () -> m.count(v));
        }
    }

    private String ask(int kind) {
        int a = word();
        int b = word();
        int v;
        int n;
        String fault;
        switch (kind) {
            case 30:
            case 31:
            case 32:
                v = near(0, 1);
                return pair("noticed(" + a + ", " + b + ", " + v + ")",
                        () -> x.noticed(a, b, v), () -> m.noticed(a, b, v));
            case 33:
                return random.nextInt(3) > 0 ? null : pair("forget()", x::forget, m::forget);
            case 34:
                return pair("fits()", x::fits, m::fits);
            case 35:
                return pair("next()", x::next, m::next);
            case 36:
                return pair("calms()", x::calms, m::calms);
            case 37:
                v = near(0, random.nextBoolean() ? 10 : 99);
                return pair("buys(" + v + ")", () -> x.buys(v), () -> m.buys(v));
            case 38:
                v = near(0, 7);
                return pair("power(" + v + ")", () -> x.power(v), () -> m.power(v));
            case 39:
                v = near(0, 10);
                return pair("misread(" + a + ", " + b + ", " + v + ")",
                        () -> x.misread(a, b, v), () -> m.misread(a, b, v));
            case 40:
                return game();
            case 41:
                fault = tell(someRule());
                return fault != null ? fault : pair("law()", x::law, m::law);
            case 42:
                v = near(0, 20);
                return pair("rests(" + v + ")", () -> x.rests(v), () -> m.rests(v));
            case 43:
            case 44:
                v = random.nextInt();
                n = near(1, 60);
                return pair("years(" + v + ", " + n + ")", () -> x.years(v, n), () -> m.years(v, n));
            default:
                v = near(0, 9);
                return pair("row(" + v + ")", () -> x.row(v), () -> m.row(v));
        }
    }

    private String game() {
        int n = near(0, 60);
        int a = near(2, 9);
        int b = near(2, 9);
        return pair("game(" + n + ", " + a + ", " + b + ")", () -> x.game(n, a, b), () -> m.game(n, a, b));
    }
}
