import java.util.ArrayDeque;
import java.util.ArrayList;
import java.util.Arrays;
import java.util.Deque;
import java.util.HashMap;
import java.util.HashSet;
import java.util.List;
import java.util.Map;
import java.util.NoSuchElementException;
import java.util.TreeSet;

/**
 * The document again, told as slowly and plainly as can be, with the whole library: words are
 * texts, rules are read anew each time they are asked. ModelTest sets the class beside it.
 */
final class Model {
    /** What undo() brings back; words hold capital letters where they are UNSAID. */
    private static final class Now {
        List<String> words = new ArrayList<>();
        int[] mood = {5, 5, 5, 5, 5, 5, 5, 5};
        int[] offer = new int[8];
        int strike;
        int day;
        int falls;

        Now twin() {
            Now t = new Now();
            t.words = new ArrayList<>(words);
            t.mood = mood.clone();
            t.offer = offer.clone();
            t.strike = strike;
            t.day = day;
            t.falls = falls;
            return t;
        }
    }

    private Now now = new Now();
    private String text = "";
    private String rule = "m-o*2-3";
    private List<Long> row = new ArrayList<>();
    private final Deque<Now> past = new ArrayDeque<>();
    private Now[] kept = new Now[3];
    private final List<int[]> seen = new ArrayList<>();

    private void tell(long... numbers) {
        row = new ArrayList<>();
        for (long n : numbers) {
            row.add(n);
        }
    }

    // ---- texts

    int sign(int v) {
        if (text.length() + 4 > 80) {
            return -1;
        }
        text += "" + (char) (v >> 24 & 255) + (char) (v >> 16 & 255) + (char) (v >> 8 & 255) + (char) (v & 255);
        return text.length();
    }

    boolean end(int n) {
        if (n < 0 || n > text.length()) {
            return false;
        }
        text = text.substring(0, n);
        return true;
    }

    private String taken() {
        String t = text;
        text = "";
        return t;
    }

    /** Whether a text is the beginning of one that tells WORDS, with room for so many. */
    private static boolean wordsCanGoOn(String t, int room) {
        String[] lines = t.split(";", -1);
        for (int i = 0; i < lines.length; i++) {
            boolean last = i == lines.length - 1;
            if (!lines[i].matches("[a-hA-H]{0,8}")) {
                return false;
            }
            if (!last && !lines[i].matches(".*[a-h].*")) {
                return false;
            }
            if (i >= room && !lines[i].isEmpty()) {
                return false;
            }
        }
        return true;
    }

    int words() {
        String t = taken();
        if (t.isEmpty()) {
            return 0;
        }
        int room = 8 - now.words.size();
        for (int p = 1; p <= Math.min(79, t.length()); p++) {
            if (!wordsCanGoOn(t.substring(0, p), room)) {
                return -p;
            }
        }
        if (t.length() > 79) {
            return -80;
        }
        String[] lines = t.split(";", -1);
        if (!lines[lines.length - 1].matches(".*[a-h].*")) {
            return -1 - t.length();
        }
        now.words.addAll(Arrays.asList(lines));
        past.clear();
        kept = new Now[3];
        return lines.length;
    }

    // ---- rules: read by going down

    private static final class Reader {
        final String t;
        final Map<Character, Integer> things;
        int p;
        int deep;

        Reader(String t, Map<Character, Integer> things) {
            this.t = t;
            this.things = things;
        }

        char here() {
            return p < t.length() ? t.charAt(p) : (char) 999;
        }

        int expression() {
            int left = sum();
            char c = here();
            if (c != '<' && c != '>' && c != '=') {
                return left;
            }
            p++;
            int right = sum();
            return (c == '<' ? left < right : c == '>' ? left > right : left == right) ? 1 : 0;
        }

        int sum() {
            int left = product();
            while (here() == '+' || here() == '-') {
                boolean plus = t.charAt(p++) == '+';
                int right = product();
                left = plus ? left + right : left - right;
            }
            return left;
        }

        int product() {
            int left = thing();
            while (here() == '*' || here() == '/') {
                boolean times = t.charAt(p++) == '*';
                int right = thing();
                left = times ? left * right : right == 0 ? 0 : left / right;
            }
            return left;
        }

        int thing() {
            if (here() == '-') {
                p++;
                return -thing();
            }
            if (Character.isDigit(here())) {
                int from = p;
                while (Character.isDigit(here()) && p - from < 3) {
                    p++;
                }
                return Integer.parseInt(t.substring(from, p));
            }
            if (here() == '(' && deep < 4) {
                p++;
                deep++;
                int v = expression();
                if (here() != ')') {
                    throw new IllegalStateException();
                }
                p++;
                deep--;
                return v;
            }
            if (things.containsKey(here())) {
                return things.get(t.charAt(p++));
            }
            throw new IllegalStateException();
        }
    }

    private static Map<Character, Integer> things(int... v) {
        Map<Character, Integer> m = new HashMap<>();
        for (int i = 0; i < 7; i++) {
            m.put("mousndi".charAt(i), i < v.length ? v[i] : 1);
        }
        return m;
    }

    /** Where reading stops, the text's length if all is read. */
    private static boolean whole(String t) {
        Reader r = new Reader(t, things());
        try {
            r.expression();
        } catch (IllegalStateException e) {
            return false;
        }
        return r.p == t.length();
    }

    /** Whether some end makes a whole rule of it: a thing and brackets, or brackets alone, do. */
    private static boolean ruleCanGoOn(String t) {
        for (int close = 0; close <= 4; close++) {
            if (whole(t + ")".repeat(close)) || whole(t + "m" + ")".repeat(close))) {
                return true;
            }
        }
        return false;
    }

    private static int ruleFault(String t) {
        if (t.isEmpty()) {
            return -1;
        }
        for (int p = 1; p <= Math.min(40, t.length()); p++) {
            if (!ruleCanGoOn(t.substring(0, p))) {
                return p - 1;
            }
        }
        if (t.length() > 40) {
            return 40;
        }
        return whole(t) ? -1 : t.length();
    }

    int rule() {
        String t = taken();
        int fault = ruleFault(t);
        if (fault >= 0) {
            return -1 - fault;
        }
        rule = t.isEmpty() ? "m-o*2-3" : t;
        return 0;
    }

    // ---- days

    private static int signs(Now s, char c) {
        int n = 0;
        for (String w : s.words) {
            for (char d : w.toCharArray()) {
                n += c == d ? 1 : 0;
            }
        }
        return n;
    }

    private static int unsaid(Now s, int l) {
        return signs(s, (char) ('A' + l));
    }

    private static int grudge(Now s, String rule, int l, int offer) {
        return new Reader(rule, things(s.mood[l], offer, unsaid(s, l), signs(s, (char) ('a' + l)),
                Integer.bitCount(s.strike), s.day % 7, l)).expression();
    }

    private static int grudge(Now s, String rule, int l) {
        return grudge(s, rule, l, s.offer[l]);
    }

    private static int strikers(Now s, String rule) {
        int bits = 0;
        for (int l = 0; l < 8; l++) {
            if (unsaid(s, l) > 0 && grudge(s, rule, l) > 0) {
                bits += 1 << l;
            }
        }
        return bits;
    }

    private static String look(String w, int strike) {
        StringBuilder b = new StringBuilder();
        for (char c : w.toCharArray()) {
            if (c >= 'a' || (strike >> c - 'A' & 1) == 0) {
                b.append(Character.toLowerCase(c));
            }
        }
        return b.toString();
    }

    private static boolean one(Now s, int a, int b, int strike) {
        return look(s.words.get(a), strike).equals(look(s.words.get(b), strike));
    }

    private static boolean twins(Now s, int a, int b) {
        return s.words.get(a).equalsIgnoreCase(s.words.get(b));
    }

    private static List<int[]> fallen(Now s) {
        List<int[]> pairs = new ArrayList<>();
        for (int a = 0; a < s.words.size(); a++) {
            for (int b = a + 1; b < s.words.size(); b++) {
                if (one(s, a, b, s.strike) && !twins(s, a, b)) {
                    pairs.add(new int[] {a, b});
                }
            }
        }
        return pairs;
    }

    private int day(Now s) {
        s.strike = strikers(s, rule);
        int n = fallen(s).size();
        s.falls = Math.min(9999, s.falls + n);
        for (int l = 0; l < 8; l++) {
            if ((s.strike >> l & 1) == 1) {
                s.mood[l] = Math.max(0, s.mood[l] - 2);
            } else if (unsaid(s, l) > 0) {
                s.mood[l] = Math.min(9, s.mood[l] + 1);
            }
        }
        s.day++;
        return n;
    }

    private void remember(Now s) {
        past.addLast(s);
        if (past.size() > 15) {
            past.removeFirst();
        }
    }

    private int act(String kind, int a, int b) {
        switch (kind) {
            case "days":
                if (a < 0 || a > 60) {
                    return -1;
                }
                int fell = 0;
                int struck = 0;
                for (int i = 0; i < a; i++) {
                    fell += day(now);
                    struck += now.strike != 0 ? 1 : 0;
                }
                tell(fell, struck);
                return now.strike;
            case "offer":
                if (a < 0 || a > 7 || b < 0 || b > 9) {
                    return -1;
                }
                int was = now.offer[a];
                now.offer[a] = b;
                return was;
            case "stirs":
                if (a < 0 || a > 7 || b < -9 || b > 9 || b == 0) {
                    return -1;
                }
                if (now.mood[a] + b < 0) {
                    return -2;
                }
                if (now.mood[a] + b > 9) {
                    return -3;
                }
                return now.mood[a] += b;
            default:
                return mute(now, a, b);
        }
    }

    private static int mute(Now s, int a, int b) {
        if (a < 0 || a >= s.words.size() || b < 0 || b >= s.words.get(a).length()) {
            return -1;
        }
        String w = s.words.get(a);
        char c = w.charAt(b);
        char d = Character.isLowerCase(c) ? Character.toUpperCase(c) : Character.toLowerCase(c);
        String v = w.substring(0, b) + d + w.substring(b + 1);
        int said = v.replaceAll("[A-H]", "").length();
        if (said == 0) {
            return -2;
        }
        s.words.set(a, v);
        return said;
    }

    private int done(String kind, int a, int b) {
        Now before = now.twin();
        int answer = act(kind, a, b);
        if (answer >= 0) {
            remember(before);
        }
        return answer;
    }

    int days(int n) {
        return done("days", n, 0);
    }

    int offer(int l, int v) {
        return done("offer", l, v);
    }

    int stirs(int l, int n) {
        return done("stirs", l, n);
    }

    int mutes(int w, int i) {
        return done("mutes", w, i);
    }

    private static final String ACTS = "(n[0-9]|o[a-h][0-9]|[rq][a-h][1-9]|x[0-9][0-9])*";

    private static boolean yearCanGoOn(String t) {
        for (String more : new String[] {"", "1", "a1", "11"}) {
            if ((t + more).matches(ACTS)) {
                return true;
            }
        }
        return false;
    }

    int year() {
        String t = taken();
        for (int p = 1; p <= Math.min(60, t.length()); p++) {
            if (!yearCanGoOn(t.substring(0, p))) {
                return -p;
            }
        }
        if (t.length() > 60) {
            return -61;
        }
        if (!t.matches(ACTS)) {
            return -1 - t.length();
        }
        Now before = now.twin();
        int n = 0;
        int refused = 0;
        while (!t.isEmpty()) {
            char k = t.charAt(0);
            int d = t.charAt(1) - '0';
            int l = t.charAt(1) - 'a';
            int answer;
            if (k == 'n') {
                answer = act("days", d, 0);
            } else {
                int v = t.charAt(2) - '0';
                answer = k == 'o' ? act("offer", l, v) : k == 'x' ? act("mutes", d, v)
                        : act("stirs", l, k == 'r' ? v : -v);
            }
            if (answer < 0) {
                refused = 1;
                break;
            }
            n++;
            t = t.substring(k == 'n' ? 2 : 3);
        }
        if (n > 0) {
            remember(before);
        }
        tell(refused, now.strike);
        return n;
    }

    int undo() {
        if (past.isEmpty()) {
            return -1;
        }
        now = past.removeLast();
        return past.size();
    }

    // ---- looking

    private boolean has(int w) {
        return w >= 0 && w < now.words.size();
    }

    private boolean two(int a, int b) {
        return has(a) && has(b) && a != b;
    }

    int word(int w, int what) {
        if (!has(w)) {
            throw new NoSuchElementException();
        }
        String s = now.words.get(w);
        int all = 0;
        int mute = 0;
        for (char c : s.toCharArray()) {
            all |= 1 << Character.toLowerCase(c) - 'a';
            mute |= c < 'a' ? 1 << c - 'A' : 0;
        }
        int ones = 0;
        for (int v = 0; v < now.words.size(); v++) {
            ones |= v != w && one(now, v, w, now.strike) ? 1 << v : 0;
        }
        switch (what) {
            case 0: return s.length();
            case 1: return look(s, now.strike).length();
            case 2: return all;
            case 3: return mute;
            case 4: return ones;
            default: throw new NoSuchElementException();
        }
    }

    int at(int w, int i) {
        if (!has(w) || i < 0 || i >= now.words.get(w).length()) {
            throw new NoSuchElementException();
        }
        char c = now.words.get(w).charAt(i);
        return c >= 'a' ? c - 'a' : c - 'A' + 8;
    }

    int letter(int l, int what) {
        if (l < 0 || l > 7) {
            throw new NoSuchElementException();
        }
        switch (what) {
            case 0: return now.mood[l];
            case 1: return now.offer[l];
            case 2: return unsaid(now, l);
            case 3: return signs(now, (char) ('a' + l));
            case 4: return now.strike >> l & 1;
            case 5: return grudge(now, rule, l);
            default: throw new NoSuchElementException();
        }
    }

    int sheet(int kind, int n, int f, int step) {
        if (kind < 0 || kind > 3 || n > 8) {
            return -1;
        }
        if (kind == 3) {
            now.mood = new int[8];
            return -3;
        }
        if (n < 0) {
            return -2;
        }
        int[] mood = new int[8];
        int entry = f;
        for (int i = 0; i < n; i++) {
            int v = kind == 0 ? (byte) entry : kind == 1 ? (short) entry : entry;
            mood[i] = v < 0 ? 0 : v > 9 ? 9 : v;
            entry += step;
        }
        now.mood = mood;
        return Arrays.stream(mood).sum();
    }

    int looks(int w, int strike) {
        if (!has(w) || strike < 0 || strike > 255) {
            return -1;
        }
        row = new ArrayList<>();
        for (char c : look(now.words.get(w), strike).toCharArray()) {
            row.add((long) (c - 'a'));
        }
        return row.size();
    }

    int kinds(int strike) {
        if (strike < 0 || strike > 255) {
            return -1;
        }
        List<String> rows = new ArrayList<>();
        for (String w : now.words) {
            rows.add(look(w, strike));
        }
        row = new ArrayList<>();
        for (String r : rows) {
            row.add((long) rows.indexOf(r));
        }
        return new HashSet<>(rows).size();
    }

    private static int distance(String a, String b) {
        if (a.isEmpty() || b.isEmpty()) {
            return a.length() + b.length();
        }
        int[] line = new int[b.length() + 1];
        for (int j = 0; j <= b.length(); j++) {
            line[j] = j;
        }
        for (int i = 1; i <= a.length(); i++) {
            int[] below = new int[b.length() + 1];
            below[0] = i;
            for (int j = 1; j <= b.length(); j++) {
                int same = a.charAt(i - 1) == b.charAt(j - 1) ? 0 : 1;
                below[j] = Math.min(line[j - 1] + same, Math.min(line[j], below[j - 1]) + 1);
            }
            line = below;
        }
        return line[b.length()];
    }

    /** By all parts of the first that are in the second, too. */
    private static int common(String a, String b) {
        int best = 0;
        for (int part = 0; part < 1 << a.length(); part++) {
            int from = 0;
            int n = 0;
            for (int i = 0; i < a.length() && from >= 0; i++) {
                if ((part >> i & 1) == 1) {
                    from = b.indexOf(a.charAt(i), from) + 1;
                    if (from == 0) {
                        from = -1;
                    }
                    n++;
                }
            }
            if (from >= 0) {
                best = Math.max(best, n);
            }
        }
        return best;
    }

    int apart(int a, int b) {
        if (!two(a, b)) {
            return -1;
        }
        tell(distance(look(now.words.get(a), 0), look(now.words.get(b), 0)));
        return distance(look(now.words.get(a), now.strike), look(now.words.get(b), now.strike));
    }

    int shared(int a, int b) {
        if (!two(a, b)) {
            return -1;
        }
        tell(common(look(now.words.get(a), 0), look(now.words.get(b), 0)));
        return common(look(now.words.get(a), now.strike), look(now.words.get(b), now.strike));
    }

    int chain(int a, int b, int k) {
        if (!has(a) || !has(b) || k < 0 || k > 8) {
            return -1;
        }
        List<List<Integer>> rows = List.of(List.of(a));
        for (int n = 1; n <= 8; n++) {
            List<List<Integer>> longer = new ArrayList<>();
            for (List<Integer> r : rows) {
                int last = r.get(r.size() - 1);
                if (last == b) {
                    row = new ArrayList<>();
                    for (int w : r) {
                        row.add((long) w);
                    }
                    return n;
                }
                for (int w = 0; w < now.words.size(); w++) {
                    if (!r.contains(w) && distance(look(now.words.get(last), now.strike),
                            look(now.words.get(w), now.strike)) <= k) {
                        List<Integer> more = new ArrayList<>(r);
                        more.add(w);
                        longer.add(more);
                    }
                }
            }
            // Rows stay in their order; of two that end alike only the lesser can be best.
            List<List<Integer>> first = new ArrayList<>();
            TreeSet<Integer> ends = new TreeSet<>();
            for (List<Integer> r : longer) {
                if (ends.add(r.get(r.size() - 1))) {
                    first.add(r);
                }
            }
            rows = first;
        }
        return -2;
    }

    private long moods(Now s) {
        return Arrays.stream(s.mood).sum();
    }

    int ahead(int n) {
        if (n < 0 || n > 99) {
            return -1;
        }
        Now s = now.twin();
        for (int i = 0; i < n; i++) {
            day(s);
        }
        tell(s.falls, moods(s));
        return s.strike;
    }

    int falls() {
        Now s = now.twin();
        for (int i = 1; i <= 99; i++) {
            day(s);
            List<int[]> pairs = fallen(s);
            if (!pairs.isEmpty()) {
                tell(pairs.get(0)[0], pairs.get(0)[1]);
                return i;
            }
        }
        return -2;
    }

    int when(int l) {
        if (l < 0 || l > 7) {
            return -1;
        }
        Now s = now.twin();
        List<Integer> struck = new ArrayList<>();
        for (int i = 1; i <= 99; i++) {
            day(s);
            if ((s.strike >> l & 1) == 1) {
                struck.add(i);
            }
        }
        if (struck.isEmpty()) {
            return -2;
        }
        tell(struck.size());
        return struck.get(0);
    }

    int crossest() {
        List<Integer> grudges = new ArrayList<>();
        int best = -2;
        for (int l = 0; l < 8; l++) {
            if (unsaid(now, l) > 0) {
                grudges.add(grudge(now, rule, l));
                best = best == -2 || grudge(now, rule, l) > grudge(now, rule, best) ? l : best;
            }
        }
        if (best >= 0) {
            int most = grudge(now, rule, best);
            tell(most, grudges.stream().filter(g -> g == most).count());
        }
        return best;
    }

    // ---- staying: all sets, in the order of how many and then of bits

    private static List<Integer> setsByFewest(int of) {
        List<Integer> sets = new ArrayList<>();
        for (int s = 0; s < 256; s++) {
            if ((s & of) == s) {
                sets.add(s);
            }
        }
        sets.sort((x, y) -> Integer.bitCount(x) != Integer.bitCount(y)
                ? Integer.bitCount(x) - Integer.bitCount(y) : x - y);
        return sets;
    }

    private static List<Integer> setsByMost(int of) {
        List<Integer> sets = setsByFewest(of);
        sets.sort((x, y) -> Integer.bitCount(y) - Integer.bitCount(x));
        return sets;
    }

    private boolean apartBy(int strike, int words) {
        for (int a = 0; a < now.words.size(); a++) {
            for (int b = a + 1; b < now.words.size(); b++) {
                if ((words >> a & 1) == 1 && (words >> b & 1) == 1 && one(now, a, b, strike) && !twins(now, a, b)) {
                    return false;
                }
            }
        }
        return true;
    }

    int must(int words) {
        if (words < 0 || words >> now.words.size() != 0) {
            return -1;
        }
        for (int stay : setsByFewest(255)) {
            if (apartBy(255 - stay, words)) {
                tell(stay);
                return Integer.bitCount(stay);
            }
        }
        throw new IllegalStateException("none can stay");
    }

    private int mute() {
        int bits = 0;
        for (int l = 0; l < 8; l++) {
            bits |= unsaid(now, l) > 0 ? 1 << l : 0;
        }
        return bits;
    }

    int most() {
        for (int strike : setsByMost(mute())) {
            if (apartBy(strike, 255)) {
                tell(strike);
                return Integer.bitCount(strike);
            }
        }
        throw new IllegalStateException("none can strike");
    }

    int joins(int a, int b) {
        if (!two(a, b)) {
            return -1;
        }
        for (int strike : setsByFewest(255)) {
            if (one(now, a, b, strike)) {
                tell(strike);
                return Integer.bitCount(strike);
            }
        }
        return -2;
    }

    private static boolean meet(String a, String b) {
        for (int strike = 0; strike < 256; strike++) {
            if (look(a, strike).equals(look(b, strike))) {
                return true;
            }
        }
        return false;
    }

    int safe() {
        int n = now.words.size();
        boolean[][] meet = new boolean[n][n];
        for (int a = 0; a < n; a++) {
            for (int b = 0; b < n; b++) {
                meet[a][b] = a != b && meet(now.words.get(a), now.words.get(b));
            }
        }
        for (int set : setsByMost((1 << n) - 1)) {
            boolean good = true;
            for (int a = 0; a < n; a++) {
                for (int b = 0; b < n; b++) {
                    good &= (set >> a & set >> b & 1) == 0 || !meet[a][b];
                }
            }
            if (good) {
                tell(set);
                return Integer.bitCount(set);
            }
        }
        throw new IllegalStateException("not even none is safe");
    }

    int parts(int a, int b) {
        if (!two(a, b)) {
            return -1;
        }
        String w = now.words.get(a);
        for (int set : setsByFewest((1 << w.length()) - 1)) {
            StringBuilder v = new StringBuilder();
            for (int i = 0; i < w.length(); i++) {
                char c = w.charAt(i);
                v.append((set >> i & 1) == 0 ? c : (char) (c ^ 32));
            }
            if (v.toString().matches(".*[a-h].*") && !meet(v.toString(), now.words.get(b))) {
                tell(set);
                return Integer.bitCount(set);
            }
        }
        return -2;
    }

    // ---- noticing

    int noticed(int a, int b, int is) {
        if (!two(a, b) || is < 0 || is > 1 || seen.size() == 12) {
            return -1;
        }
        seen.add(new int[] {a, b, is});
        return seen.size();
    }

    int forget() {
        int n = seen.size();
        seen.clear();
        return n;
    }

    private List<Integer> fitting() {
        List<Integer> sets = setsByFewest(mute());
        sets.removeIf(s -> {
            for (int[] n : seen) {
                if (one(now, n[0], n[1], s) != (n[2] == 1)) {
                    return true;
                }
            }
            return false;
        });
        return sets;
    }

    int fits() {
        List<Integer> sets = fitting();
        tell();
        if (!sets.isEmpty()) {
            int all = 255;
            for (int s : sets) {
                all &= s;
            }
            tell(sets.get(0), all);
        }
        return sets.size();
    }

    int next() {
        List<Integer> sets = fitting();
        if (sets.isEmpty() || now.words.size() < 2) {
            return -2;
        }
        long best = 1000;
        for (int a = 0; a < now.words.size(); a++) {
            for (int b = a + 1; b < now.words.size(); b++) {
                int one = a;
                int other = b;
                long yes = sets.stream().filter(s -> one(now, one, other, s)).count();
                long left = Math.max(yes, sets.size() - yes);
                if (left < best) {
                    best = left;
                    tell(a, b);
                }
            }
        }
        return (int) best;
    }

    // ---- offers

    private int price(int l) {
        for (int add = 0; now.offer[l] + add <= 9; add++) {
            if (grudge(now, rule, l, now.offer[l] + add) <= 0) {
                return add;
            }
        }
        return -1;
    }

    int calms() {
        long[] adds = new long[8];
        int sum = 0;
        for (int l = 0; l < 8; l++) {
            if (unsaid(now, l) > 0) {
                if (price(l) < 0) {
                    return -2;
                }
                adds[l] = price(l);
                sum += price(l);
            }
        }
        tell(adds);
        return sum;
    }

    int buys(int v) {
        if (v < 0 || v > 99) {
            return -1;
        }
        int can = 0;
        for (int l = 0; l < 8; l++) {
            can |= unsaid(now, l) > 0 && grudge(now, rule, l) > 0 && price(l) >= 0 ? 1 << l : 0;
        }
        int best = 0;
        int bestCost = 0;
        for (int set : setsByMost(can)) {
            int cost = 0;
            for (int l = 0; l < 8; l++) {
                cost += (set >> l & 1) * price(l);
            }
            if (cost > v || Integer.bitCount(set) < Integer.bitCount(best)) {
                continue;
            }
            if (Integer.bitCount(set) > Integer.bitCount(best) || cost < bestCost) {
                best = set;
                bestCost = cost;
            }
        }
        tell(best, v - bestCost);
        return Integer.bitCount(best);
    }

    private int turns(int l) {
        int all = 0;
        for (int k = 0; k < 8; k++) {
            all += unsaid(now, k);
        }
        int n = 0;
        for (int set : setsByFewest(255 - (1 << l))) {
            double votes = 0;
            for (int k = 0; k < 8; k++) {
                votes += (set >> k & 1) * unsaid(now, k);
            }
            n += votes <= all / 2.0 && votes + unsaid(now, l) > all / 2.0 ? 1 : 0;
        }
        return n;
    }

    private void fraction(long up, long down) {
        if (up == 0) {
            tell(0, 1);
            return;
        }
        long g = java.math.BigInteger.valueOf(up).gcd(java.math.BigInteger.valueOf(down)).longValue();
        tell(up / g, down / g);
    }

    int power(int l) {
        if (l < 0 || l > 7) {
            return -1;
        }
        int sum = 0;
        for (int k = 0; k < 8; k++) {
            sum += turns(k);
        }
        fraction(turns(l), sum);
        return turns(l);
    }

    // ---- chances, a game

    int misread(int a, int b, int p) {
        if (!two(a, b) || p < 0 || p > 10) {
            return -1;
        }
        long up = 0;
        for (int s = 0; s < 256; s++) {
            long chance = 1;
            for (int l = 0; l < 8; l++) {
                chance *= (s >> l & 1) == 1 ? p : 10 - p;
            }
            up += one(now, a, b, s) ? chance : 0;
        }
        fraction(up, 100000000L);
        return 0;
    }

    /** Whether who is to take wins. */
    private static boolean wins(int heap, int mine, int theirs, Map<String, Boolean> known) {
        String key = heap + " " + mine + " " + theirs;
        Boolean k = known.get(key);
        if (k != null) {
            return k;
        }
        boolean won = heap == 0;
        for (int take : new int[] {1, mine}) {
            won |= take <= heap && !wins(heap - take, theirs, mine, known);
        }
        known.put(key, won);
        return won;
    }

    int game(int n, int a, int b) {
        if (n < 0 || n > 60 || a < 2 || a > 9 || b < 2 || b > 9) {
            return -1;
        }
        if (n == 0) {
            return -2;
        }
        for (int take : new int[] {1, a}) {
            if (take <= n && !wins(n - take, b, a, new HashMap<>())) {
                return take;
            }
        }
        return 0;
    }

    // ---- laws, rests, years

    int law() {
        String t = taken();
        int fault = ruleFault(t);
        if (fault >= 0) {
            return -10000 - fault;
        }
        String other = t.isEmpty() ? "m-o*2-3" : t;
        long[] told = new long[9];
        told[0] = strikers(now, rule);
        for (int l = 0; l < 8; l++) {
            told[l + 1] = grudge(now, other, l);
        }
        tell(told);
        return strikers(now, other);
    }

    private static int has(int x, int y, int v) {
        int has = x > y ? v : x == y ? v / 2 : v / 3;
        for (int hour = 1; hour <= x; hour++) {
            has -= hour >= 6 ? 2 : 1;
        }
        return has;
    }

    int rests(int v) {
        if (v < 0 || v > 20) {
            return -1;
        }
        List<long[]> pairs = new ArrayList<>();
        for (int x = 0; x < 10; x++) {
            for (int y = 0; y < 10; y++) {
                boolean rest = true;
                for (int z = 0; z < 10; z++) {
                    rest &= has(z, y, v) <= has(x, y, v) && has(z, x, v) <= has(y, x, v);
                }
                if (rest) {
                    pairs.add(new long[] {x, y});
                }
            }
        }
        tell(pairs.isEmpty() ? new long[0] : pairs.get(0));
        return pairs.size();
    }

    private long r;

    private int draw(int n) {
        r = (r * 1103515245L + 12345L) & 0xffffffffL;
        return (int) (r / 65536 % n);
    }

    int years(int seed, int n) {
        if (n < 1 || n > 60) {
            return -1;
        }
        Now s = now.twin();
        r = seed & 0xffffffffL;
        int fell = 0;
        for (int i = 0; i < n; i++) {
            switch (draw(4)) {
                case 0:
                case 1:
                    fell += day(s);
                    break;
                case 2:
                    int l = draw(8);
                    s.offer[l] = draw(10);
                    break;
                default:
                    if (!s.words.isEmpty()) {
                        int w = draw(s.words.size());
                        mute(s, w, draw(s.words.get(w).length()));
                    }
            }
        }
        tell(s.strike, moods(s));
        return fell;
    }

    // ---- kept

    boolean keep(int i) {
        if (i < 0 || i > 2) {
            return false;
        }
        kept[i] = now.twin();
        return true;
    }

    boolean again(int i) {
        if (i < 0 || i > 2 || kept[i] == null) {
            return false;
        }
        now = kept[i].twin();
        past.clear();
        return true;
    }

    int count(int what) {
        int mute = 0;
        int all = 0;
        for (String w : now.words) {
            mute += w.replaceAll("[a-h]", "").length();
            all += w.length();
        }
        switch (what) {
            case 0: return now.words.size();
            case 1: return now.day;
            case 2: return now.strike;
            case 3: return now.falls;
            case 4: return (int) moods(now);
            case 5: return Arrays.stream(now.offer).sum();
            case 6: return mute;
            case 7: return all - mute;
            case 8: return seen.size();
            case 9: return past.size();
            case 10: return row.size();
            case 11: return text.length();
            default: return -100;
        }
    }

    long row(int i) {
        if (i < 0 || i >= row.size()) {
            throw new NoSuchElementException();
        }
        return row.get(i);
    }
}
