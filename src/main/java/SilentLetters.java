import java.util.Arrays;
import java.util.NoSuchElementException;

/** Letters that stand in words and say nothing, their union and its strikes. */
public final class SilentLetters {
    public static final int NONE = -1;

    private static final int LETTERS = 8;
    private static final int WORDS = 8;
    private static final int SIGNS = 8;
    private static final int SETS = 256;
    private static final int ALL = 255;
    private static final int MOST_MOOD = 9;
    private static final int MOST_OFFER = 9;
    private static final int FARTHEST_DAY = 99;
    private static final int NO_WAY = -2;
    private static final int TOO_MUCH = -3;
    private static final int MISSING = -3;
    private static final int LAW_FAULT = -10000;
    private static final int NO_COUNT = -100;

    private final Text text = new Text();
    private final Row told = new Row();
    private final Book book = new Book();
    private final State now = new State();
    private final State trial = new State();
    private final Past past = new Past();
    private final Rule inForce = new Rule();
    private final Rule proposed = new Rule();
    private final Union union = new Union(book);
    private final Measure measure = new Measure(book);
    private final Notices notices = new Notices();
    private final int[] codes = new int[WORDS];
    private final int[] pairs = new int[WORDS * WORDS];
    private final int[] perLetter = new int[LETTERS];
    private final int[] places = new int[SETS];
    private final int[] bareCodes = new int[SETS];
    private final int[] otherCodes = new int[SETS];
    private int drawn;

    public SilentLetters() {
        inForce.bePlain();
    }

    // ---- words, letters

    public int sign(int v) {
        return text.takeFour(v) ? text.size : NONE;
    }

    public boolean end(int n) {
        if (n < 0 || n > text.size) {
            return false;
        }
        text.size = n;
        return true;
    }

    public int words() {
        if (text.size == 0) {
            return 0;
        }
        int fault = book.faultIn(text);
        int lines = 0;
        if (fault == NONE) {
            lines = book.takeLines(text, now);
            past.forgetAll();
        }
        text.size = 0;
        return fault == NONE ? lines : -1 - fault;
    }

    public int rule() {
        int fault = proposed.read(text);
        text.size = 0;
        if (fault != NONE) {
            return -1 - fault;
        }
        inForce.copy(proposed);
        return 0;
    }

    public int word(int word, int what) throws NoSuchElementException {
        if (!book.has(word) || what < 0 || what > 4) {
            throw new NoSuchElementException("no such word or question");
        }
        switch (what) {
            case 0:
                return book.sizes[word];
            case 1:
                return book.sizes[word] - Integer.bitCount(book.gone(now, word, now.strike));
            case 2:
                return book.lettersAt(word, ALL);
            case 3:
                return book.lettersAt(word, now.unsaid[word]);
            default:
                return oneWith(word);
        }
    }

    public int at(int word, int i) throws NoSuchElementException {
        if (!book.hasSign(word, i)) {
            throw new NoSuchElementException("no such sign");
        }
        return book.letters[word][i] + ((now.unsaid[word] >> i & 1) == 1 ? LETTERS : 0);
    }

    public int letter(int letter, int what) throws NoSuchElementException {
        if (!isLetter(letter) || what < 0 || what > 5) {
            throw new NoSuchElementException("no such letter or question");
        }
        union.tally(now);
        switch (what) {
            case 0:
                return now.moods[letter];
            case 1:
                return now.offers[letter];
            case 2:
                return union.unsaid[letter];
            case 3:
                return union.said[letter];
            case 4:
                return now.strike >> letter & 1;
            default:
                return union.grudge(inForce, now, letter, now.offers[letter]);
        }
    }

    public int sheet(int kind, int n, int f, int step) {
        if (kind < 0 || kind > 3 || n > LETTERS) {
            return NONE;
        }
        if (kind == 3) {
            Arrays.fill(now.moods, 0);
            return MISSING;
        }
        if (n < 0) {
            return NO_WAY;
        }
        for (int letter = 0; letter < LETTERS; letter++) {
            int entry = letter < n ? cutTo(kind, f + letter * step) : 0;
            now.moods[letter] = Math.max(0, Math.min(MOST_MOOD, entry));
        }
        return now.moodsTogether();
    }

    // ---- days, offers

    public int days(int n) {
        if (n < 0 || n > 60) {
            return NONE;
        }
        past.remember(now);
        union.passDays(inForce, now, n);
        told.tellTwo(union.fell, union.struckDays);
        return now.strike;
    }

    public int offer(int letter, int v) {
        trial.copy(now);
        return rememberIfDone(now.putOffer(letter, v));
    }

    public int stirs(int letter, int n) {
        trial.copy(now);
        return rememberIfDone(now.stir(letter, n));
    }

    public int mutes(int word, int i) {
        trial.copy(now);
        return rememberIfDone(book.mute(now, word, i));
    }

    public int year() {
        int fault = Acts.faultIn(text);
        if (fault != NONE) {
            text.size = 0;
            return -1 - fault;
        }
        trial.copy(now);
        int done = 0;
        boolean refused = false;
        for (int p = 0; p < text.size && !refused; p += Math.max(1, Acts.lengthOf(text.signAt(p)))) {
            refused = doAct(p) < 0;
            done += refused ? 0 : 1;
        }
        text.size = 0;
        if (done > 0) {
            past.remember(trial);
        }
        told.tellTwo(refused ? 1 : 0, now.strike);
        return done;
    }

    public int undo() {
        return past.bringBack(now) ? past.size : NONE;
    }

    // ---- what words look like

    public int looks(int word, int strike) {
        if (!book.has(word) || !isSet(strike)) {
            return NONE;
        }
        int gone = book.gone(now, word, strike);
        told.size = 0;
        for (int i = 0; i < book.sizes[word]; i++) {
            if ((gone >> i & 1) == 0) {
                told.tell(book.letters[word][i]);
            }
        }
        return told.size;
    }

    public int kinds(int strike) {
        if (!isSet(strike)) {
            return NONE;
        }
        book.spellAll(now, strike, codes);
        told.size = 0;
        int different = 0;
        for (int word = 0; word < book.size; word++) {
            int first = firstLike(word);
            different += first == word ? 1 : 0;
            told.tell(first);
        }
        return different;
    }

    public int apart(int one, int other) {
        if (!book.hasBoth(one, other)) {
            return NONE;
        }
        told.size = 0;
        told.tell(measure.edits(now, one, other, 0));
        return measure.edits(now, one, other, now.strike);
    }

    public int chain(int one, int other, int k) {
        if (!book.has(one) || !book.has(other) || k < 0 || k > SIGNS) {
            return NONE;
        }
        measure.stepsTo(now, other, k);
        int steps = measure.steps[one];
        if (steps == NONE) {
            return NO_WAY;
        }
        told.size = 0;
        told.tell(one);
        int word = one;
        for (int left = steps - 1; left >= 0; left--) {
            word = measure.stepFrom(word, left);
            told.tell(word);
        }
        return told.size;
    }

    public int ahead(int n) {
        if (n < 0 || n > FARTHEST_DAY) {
            return NONE;
        }
        trial.copy(now);
        union.passDays(inForce, trial, n);
        told.tellTwo(trial.falls, trial.moodsTogether());
        return trial.strike;
    }

    public int falls() {
        trial.copy(now);
        for (int day = 1; day <= FARTHEST_DAY; day++) {
            if (union.passDay(inForce, trial) > 0) {
                tellFirstFallen();
                return day;
            }
        }
        return NO_WAY;
    }

    public int when(int letter) {
        if (!isLetter(letter)) {
            return NONE;
        }
        trial.copy(now);
        int first = NO_WAY;
        int struck = 0;
        for (int day = 1; day <= FARTHEST_DAY; day++) {
            union.passDay(inForce, trial);
            if ((trial.strike >> letter & 1) == 1) {
                struck++;
                first = first == NO_WAY ? day : first;
            }
        }
        if (first != NO_WAY) {
            told.size = 0;
            told.tell(struck);
        }
        return first;
    }

    public int shared(int one, int other) {
        if (!book.hasBoth(one, other)) {
            return NONE;
        }
        told.size = 0;
        told.tell(measure.inCommon(now, one, other, 0));
        return measure.inCommon(now, one, other, now.strike);
    }

    public int crossest() {
        union.tally(now);
        int best = NO_WAY;
        int most = 0;
        int asMuch = 0;
        for (int letter = 0; letter < LETTERS; letter++) {
            if (union.unsaid[letter] == 0) {
                continue;
            }
            int grudge = union.grudge(inForce, now, letter, now.offers[letter]);
            if (best == NO_WAY || grudge > most) {
                best = letter;
                most = grudge;
                asMuch = 1;
            } else if (grudge == most) {
                asMuch++;
            }
        }
        if (best != NO_WAY) {
            told.tellTwo(most, asMuch);
        }
        return best;
    }

    // ---- who must stay

    public int must(int words) {
        if (words < 0 || words >= 1 << book.size) {
            return NONE;
        }
        int best = ALL;
        for (int stay = 0; stay < SETS; stay++) {
            if (Integer.bitCount(stay) < Integer.bitCount(best) && tellsApart(ALL ^ stay, words)) {
                best = stay;
            }
        }
        return tellSet(best);
    }

    public int most() {
        int unsaid = book.unsaidLetters(now);
        int best = 0;
        for (int strike = 0; strike < SETS; strike++) {
            if ((strike & ~unsaid) == 0 && Integer.bitCount(strike) > Integer.bitCount(best)
                    && tellsApart(strike, ALL)) {
                best = strike;
            }
        }
        return tellSet(best);
    }

    public int joins(int one, int other) {
        if (!book.hasBoth(one, other)) {
            return NONE;
        }
        int best = NONE;
        for (int strike = 0; strike < SETS; strike++) {
            if ((best == NONE || Integer.bitCount(strike) < Integer.bitCount(best))
                    && book.areOne(now, one, other, strike)) {
                best = strike;
            }
        }
        return best == NONE ? NO_WAY : tellSet(best);
    }

    public int safe() {
        Arrays.fill(pairs, 0);
        for (int strike = 0; strike < SETS; strike++) {
            countPairsThatAreOne(strike);
        }
        int best = 0;
        for (int set = 0; set < 1 << book.size; set++) {
            if (Integer.bitCount(set) > Integer.bitCount(best) && neverMeet(set)) {
                best = set;
            }
        }
        return tellSet(best);
    }

    public int parts(int word, int other) {
        if (!book.hasBoth(word, other)) {
            return NONE;
        }
        int every = (1 << book.sizes[word]) - 1;
        for (int set = 0; set < SETS; set++) {
            places[set] = book.placesOf(word, set);
            bareCodes[set] = book.bare(word, set);
            otherCodes[set] = book.spell(now, other, set);
        }
        int best = NONE;
        for (int change = 0; change <= every; change++) {
            int unsaid = now.unsaid[word] ^ change;
            if ((best == NONE || Integer.bitCount(change) < Integer.bitCount(best))
                    && unsaid != every && neverTaken(unsaid)) {
                best = change;
            }
        }
        return best == NONE ? NO_WAY : tellSet(best);
    }

    // ---- which strike it was

    public int noticed(int one, int other, int is) {
        if (!book.hasBoth(one, other) || is < 0 || is > 1 || !notices.hasRoom()) {
            return NONE;
        }
        notices.take(one, other, is);
        return notices.size;
    }

    public int forget() {
        int had = notices.size;
        notices.size = 0;
        return had;
    }

    public int fits() {
        int unsaid = book.unsaidLetters(now);
        int fitting = 0;
        int best = ALL;
        int inAll = ALL;
        for (int strike = 0; strike < SETS; strike++) {
            if ((strike & ~unsaid) != 0 || !agrees(strike)) {
                continue;
            }
            if (fitting == 0 || Integer.bitCount(strike) < Integer.bitCount(best)) {
                best = strike;
            }
            inAll &= strike;
            fitting++;
        }
        told.size = 0;
        if (fitting > 0) {
            told.tellTwo(best, inAll);
        }
        return fitting;
    }

    public int next() {
        int unsaid = book.unsaidLetters(now);
        int fitting = 0;
        Arrays.fill(pairs, 0);
        for (int strike = 0; strike < SETS; strike++) {
            if ((strike & ~unsaid) == 0 && agrees(strike)) {
                countPairsThatAreOne(strike);
                fitting++;
            }
        }
        return fitting == 0 || book.size < 2 ? NO_WAY : tellBestLook(fitting);
    }

    // ---- offers, votes

    public int calms() {
        union.tally(now);
        int sum = 0;
        for (int letter = 0; letter < LETTERS; letter++) {
            perLetter[letter] = union.unsaid[letter] == 0 ? 0 : union.priceOf(inForce, now, letter);
            if (perLetter[letter] == NONE) {
                return NO_WAY;
            }
            sum += perLetter[letter];
        }
        told.size = 0;
        for (int letter = 0; letter < LETTERS; letter++) {
            told.tell(perLetter[letter]);
        }
        return sum;
    }

    public int buys(int v) {
        if (v < 0 || v > 99) {
            return NONE;
        }
        int onSale = priceStrikers();
        int best = 0;
        int bestCost = 0;
        for (int set = 1; set < SETS; set++) {
            if ((set & ~onSale) != 0) {
                continue;
            }
            int cost = sumOver(set);
            int more = Integer.bitCount(set) - Integer.bitCount(best);
            if (cost <= v && (more > 0 || more == 0 && cost < bestCost)) {
                best = set;
                bestCost = cost;
            }
        }
        told.tellTwo(best, v - bestCost);
        return Integer.bitCount(best);
    }

    public int power(int letter) {
        if (!isLetter(letter)) {
            return NONE;
        }
        union.tally(now);
        System.arraycopy(union.unsaid, 0, perLetter, 0, LETTERS);
        int turned = 0;
        int sum = 0;
        for (int one = 0; one < LETTERS; one++) {
            int turns = setsTurnedBy(one);
            turned = one == letter ? turns : turned;
            sum += turns;
        }
        told.tellFraction(turned, sum);
        return turned;
    }

    // ---- chances, a game

    public int misread(int one, int other, int p) {
        if (!book.hasBoth(one, other) || p < 0 || p > 10) {
            return NONE;
        }
        long upper = 0;
        for (int strike = 0; strike < SETS; strike++) {
            if (book.areOne(now, one, other, strike)) {
                upper += chanceOf(strike, p);
            }
        }
        told.tellFraction(upper, raised(10, LETTERS));
        return 0;
    }

    public int game(int n, int a, int b) {
        if (n < 0 || n > 60 || a < 2 || a > 9 || b < 2 || b > 9) {
            return NONE;
        }
        if (n == 0) {
            return NO_WAY;
        }
        // Bit h: who is to take from a heap of h wins; 61 heaps have room in a long.
        long office = 0;
        long others = 0;
        for (int heap = 2; heap < n; heap++) {
            long officeWins = winningTake(heap, a, others) > 0 ? 1 : 0;
            long othersWin = winningTake(heap, b, office) > 0 ? 1 : 0;
            office |= officeWins << heap;
            others |= othersWin << heap;
        }
        return winningTake(n, a, others);
    }

    // ---- laws, rests, years

    public int law() {
        int fault = proposed.read(text);
        text.size = 0;
        if (fault != NONE) {
            return LAW_FAULT - fault;
        }
        told.size = 0;
        told.tell(union.strikers(inForce, now));
        for (int letter = 0; letter < LETTERS; letter++) {
            told.tell(union.grudge(proposed, now, letter, now.offers[letter]));
        }
        return union.strikers(proposed, now);
    }

    public int rests(int v) {
        if (v < 0 || v > 20) {
            return NONE;
        }
        int pairsAtRest = 0;
        told.size = 0;
        for (int x = 0; x <= 9; x++) {
            for (int y = 0; y <= 9; y++) {
                if (isBest(x, y, v) && isBest(y, x, v)) {
                    if (pairsAtRest == 0) {
                        told.tellTwo(x, y);
                    }
                    pairsAtRest++;
                }
            }
        }
        return pairsAtRest;
    }

    public int years(int seed, int n) {
        if (n < 1 || n > 60) {
            return NONE;
        }
        trial.copy(now);
        drawn = seed;
        int fell = 0;
        for (int time = 0; time < n; time++) {
            int kind = draw(4);
            if (kind < 2) {
                fell += union.passDay(inForce, trial);
            } else if (kind == 2) {
                int letter = draw(LETTERS);
                trial.putOffer(letter, draw(MOST_OFFER + 1));
            } else if (book.size > 0) {
                int word = draw(book.size);
                book.mute(trial, word, draw(book.sizes[word]));
            }
        }
        told.tellTwo(trial.strike, trial.moodsTogether());
        return fell;
    }

    // ---- kept

    public boolean keep(int i) {
        return past.keepUnder(i, now);
    }

    public boolean again(int i) {
        return past.takeUp(i, now);
    }

    public int count(int what) {
        union.tally(now);
        switch (what) {
            case 0:
                return book.size;
            case 1:
                return now.day;
            case 2:
                return now.strike;
            case 3:
                return now.falls;
            case 4:
                return now.moodsTogether();
            case 5:
                return sum(now.offers);
            case 6:
                return sum(union.unsaid);
            case 7:
                return sum(union.said);
            case 8:
                return notices.size;
            case 9:
                return past.size;
            case 10:
                return told.size;
            case 11:
                return text.size;
            default:
                return NO_COUNT;
        }
    }

    public long row(int i) throws NoSuchElementException {
        if (i < 0 || i >= told.size) {
            throw new NoSuchElementException("no such number");
        }
        return told.numbers[i];
    }

    // ---- helpers of the calls

    private static boolean isLetter(int letter) {
        return letter >= 0 && letter < LETTERS;
    }

    private static boolean isSet(int bits) {
        return bits >= 0 && bits <= ALL;
    }

    private static int cutTo(int kind, int entry) {
        return kind == 0 ? (byte) entry : kind == 1 ? (short) entry : entry;
    }

    private static int sum(int[] numbers) {
        int sum = 0;
        for (int number : numbers) {
            sum += number;
        }
        return sum;
    }

    private int rememberIfDone(int answer) {
        if (answer >= 0) {
            past.remember(trial);
        }
        return answer;
    }

    private int doAct(int p) {
        int act = text.signAt(p);
        int first = text.signAt(p + 1);
        if (act == 'n') {
            for (int day = 0; day < first - '0'; day++) {
                union.passDay(inForce, now);
            }
            return now.strike;
        }
        int second = text.signAt(p + 2) - '0';
        if (act == 'x') {
            return book.mute(now, first - '0', second);
        }
        if (act == 'o') {
            return now.putOffer(first - 'a', second);
        }
        return now.stir(first - 'a', act == 'r' ? second : -second);
    }

    private int draw(int n) {
        drawn = drawn * 1103515245 + 12345;
        return n > 0 ? (drawn >>> 16) % n : 0;
    }

    private int oneWith(int word) {
        book.spellAll(now, now.strike, codes);
        int bits = 0;
        for (int other = 0; other < book.size; other++) {
            if (other != word && codes[other] == codes[word]) {
                bits |= 1 << other;
            }
        }
        return bits;
    }

    private int firstLike(int word) {
        for (int first = 0; first < word; first++) {
            if (codes[first] == codes[word]) {
                return first;
            }
        }
        return word;
    }

    private void tellFirstFallen() {
        book.spellAll(trial, trial.strike, codes);
        for (int one = 0; one < book.size; one++) {
            for (int other = one + 1; other < book.size; other++) {
                if (codes[one] == codes[other] && !book.areTwins(one, other)) {
                    told.tellTwo(one, other);
                    return;
                }
            }
        }
    }

    private int tellSet(int bits) {
        told.size = 0;
        told.tell(bits);
        return Integer.bitCount(bits);
    }

    private boolean tellsApart(int strike, int words) {
        book.spellAll(now, strike, codes);
        for (int one = 0; one < book.size; one++) {
            for (int other = one + 1; other < book.size; other++) {
                if ((words >> one & words >> other & 1) == 1
                        && codes[one] == codes[other] && !book.areTwins(one, other)) {
                    return false;
                }
            }
        }
        return true;
    }

    private void countPairsThatAreOne(int strike) {
        book.spellAll(now, strike, codes);
        for (int one = 0; one < book.size; one++) {
            for (int other = one + 1; other < book.size; other++) {
                pairs[one * WORDS + other] += codes[one] == codes[other] ? 1 : 0;
            }
        }
    }

    private boolean neverMeet(int set) {
        for (int one = 0; one < book.size; one++) {
            for (int other = one + 1; other < book.size; other++) {
                if ((set >> one & set >> other & 1) == 1 && pairs[one * WORDS + other] > 0) {
                    return false;
                }
            }
        }
        return true;
    }

    private boolean neverTaken(int unsaid) {
        for (int strike = 0; strike < SETS; strike++) {
            if (bareCodes[unsaid & places[strike]] == otherCodes[strike]) {
                return false;
            }
        }
        return true;
    }

    private boolean agrees(int strike) {
        book.spellAll(now, strike, codes);
        return notices.agreeWith(codes);
    }

    private int tellBestLook(int fitting) {
        int fewest = fitting + 1;
        for (int one = 0; one < book.size; one++) {
            for (int other = one + 1; other < book.size; other++) {
                int ones = pairs[one * WORDS + other];
                int left = Math.max(ones, fitting - ones);
                if (left < fewest) {
                    fewest = left;
                    told.tellTwo(one, other);
                }
            }
        }
        return fewest;
    }

    private int priceStrikers() {
        union.tally(now);
        int onSale = 0;
        for (int letter = 0; letter < LETTERS; letter++) {
            perLetter[letter] = union.unsaid[letter] == 0 ? 0 : union.priceOf(inForce, now, letter);
            if (perLetter[letter] > 0) {
                onSale |= 1 << letter;
            }
        }
        return onSale;
    }

    private int sumOver(int set) {
        int sum = 0;
        for (int letter = 0; letter < LETTERS; letter++) {
            sum += (set >> letter & 1) == 1 ? perLetter[letter] : 0;
        }
        return sum;
    }

    private int setsTurnedBy(int letter) {
        int all = sumOver(ALL);
        int turned = 0;
        for (int set = 0; set < SETS; set++) {
            if ((set >> letter & 1) == 0) {
                int votes = sumOver(set);
                boolean turns = 2 * votes <= all && 2 * (votes + perLetter[letter]) > all;
                turned += turns ? 1 : 0;
            }
        }
        return turned;
    }

    private static long raised(long base, int times) {
        long product = 1;
        for (int k = 0; k < times; k++) {
            product *= base;
        }
        return product;
    }

    private static long chanceOf(int strike, int tenths) {
        int striking = Integer.bitCount(strike);
        return raised(tenths, striking) * raised(10 - tenths, LETTERS - striking);
    }

    private static int winningTake(int heap, int larger, long opponentWins) {
        // Taking the whole heap takes the last one, so a take must leave something.
        if (heap > 1 && (opponentWins >> heap - 1 & 1) == 0) {
            return 1;
        }
        return heap > larger && (opponentWins >> heap - larger & 1) == 0 ? larger : 0;
    }

    private static int gainOf(int hours, int others, int v) {
        int cost = hours + Math.max(0, hours - 5);
        int share = hours > others ? v : hours == others ? v / 2 : v / 3;
        return share - cost;
    }

    private static boolean isBest(int hours, int others, int v) {
        int gain = gainOf(hours, others, v);
        for (int another = 0; another <= 9; another++) {
            if (gainOf(another, others, v) > gain) {
                return false;
            }
        }
        return true;
    }

    /** THE TEXT that sign() and end() make and the reading calls empty. */
    private static final class Text {
        private static final int MOST = 80;
        private final char[] signs = new char[MOST];
        int size;

        char signAt(int p) {
            return p >= 0 && p < size ? signs[p] : 0;
        }

        boolean takeFour(int v) {
            if (size > MOST - 4) {
                return false;
            }
            for (int shift = 24; shift >= 0; shift -= 8) {
                signs[size] = (char) (v >>> shift & 255);
                size++;
            }
            return true;
        }
    }

    /** The ROW. */
    private static final class Row {
        final long[] numbers = new long[LETTERS + 1];
        int size;

        void tell(long number) {
            if (size < numbers.length) {
                numbers[size] = number;
                size++;
            }
        }

        void tellTwo(long first, long second) {
            size = 0;
            tell(first);
            tell(second);
        }

        void tellFraction(long upper, long lower) {
            if (upper == 0 || lower == 0) {
                tellTwo(0, 1);
                return;
            }
            long divisor = upper;
            long rest = lower;
            for (int k = 0; k < 100 && rest != 0; k++) {
                long left = divisor % rest;
                divisor = rest;
                rest = left;
            }
            if (divisor != 0) {
                tellTwo(upper / divisor, lower / divisor);
            }
        }
    }

    /** What undo() and again() bring back. */
    private static final class State {
        final int[] unsaid = new int[WORDS];
        final int[] moods = new int[LETTERS];
        final int[] offers = new int[LETTERS];
        int strike;
        int day;
        int falls;

        State() {
            Arrays.fill(moods, 5);
        }

        void copy(State from) {
            System.arraycopy(from.unsaid, 0, unsaid, 0, WORDS);
            System.arraycopy(from.moods, 0, moods, 0, LETTERS);
            System.arraycopy(from.offers, 0, offers, 0, LETTERS);
            strike = from.strike;
            day = from.day;
            falls = from.falls;
        }

        int moodsTogether() {
            return sum(moods);
        }

        int putOffer(int letter, int v) {
            if (!isLetter(letter) || v < 0 || v > MOST_OFFER) {
                return NONE;
            }
            int before = offers[letter];
            offers[letter] = v;
            return before;
        }

        int stir(int letter, int n) {
            if (!isLetter(letter) || n == 0 || n < -MOST_MOOD || n > MOST_MOOD) {
                return NONE;
            }
            int mood = moods[letter] + n;
            if (mood < 0) {
                return NO_WAY;
            }
            if (mood > MOST_MOOD) {
                return TOO_MUCH;
            }
            moods[letter] = mood;
            return mood;
        }
    }

    /** States to go back to: those of undo() and those of keep(). */
    private static final class Past {
        private static final int MOST = 15;
        private static final int KEPT = 3;
        private final State[] states = new State[MOST];
        private final State[] kept = new State[KEPT];
        private final boolean[] isKept = new boolean[KEPT];
        private int latest;
        int size;

        Past() {
            for (int i = 0; i < MOST; i++) {
                states[i] = new State();
            }
            for (int i = 0; i < KEPT; i++) {
                kept[i] = new State();
            }
        }

        void remember(State state) {
            latest = (latest + 1) % MOST;
            states[latest].copy(state);
            size = Math.min(size + 1, MOST);
        }

        boolean bringBack(State state) {
            if (size == 0) {
                return false;
            }
            state.copy(states[latest]);
            latest = (latest + MOST - 1) % MOST;
            size--;
            return true;
        }

        boolean keepUnder(int i, State state) {
            if (i < 0 || i >= KEPT) {
                return false;
            }
            kept[i].copy(state);
            isKept[i] = true;
            return true;
        }

        boolean takeUp(int i, State state) {
            if (i < 0 || i >= KEPT || !isKept[i]) {
                return false;
            }
            state.copy(kept[i]);
            size = 0;
            return true;
        }

        /** New WORDS: no earlier state tells what is SAID in them. */
        void forgetAll() {
            size = 0;
            for (int i = 0; i < KEPT; i++) {
                isKept[i] = false;
            }
        }
    }

    /** The WORDS as they were told; what is SAID in them stands in a State. */
    private static final class Book {
        private static final int MOST_TEXT = 79;
        final int[][] letters = new int[WORDS][SIGNS];
        final int[] sizes = new int[WORDS];
        private final int[] wholeCodes = new int[WORDS];
        int size;

        boolean has(int word) {
            return word >= 0 && word < size;
        }

        boolean hasBoth(int one, int other) {
            return has(one) && has(other) && one != other;
        }

        boolean hasSign(int word, int i) {
            return has(word) && i >= 0 && i < sizes[word];
        }

        /** Where the text can't stand, or NONE. */
        int faultIn(Text text) {
            int lines = 0;
            int length = 0;
            boolean said = false;
            int end = Math.min(text.size, MOST_TEXT);
            for (int p = 0; p < end; p++) {
                char c = text.signAt(p);
                if (c == ';' && said) {
                    lines++;
                    length = 0;
                    said = false;
                } else if (letterOf(c) == NONE || length == SIGNS || size + lines >= WORDS) {
                    return p;
                } else {
                    length++;
                    said = said || isSaid(c);
                }
            }
            return text.size > MOST_TEXT || !said ? end : NONE;
        }

        /** Adds the LINES of a text without a fault; answers how many. */
        int takeLines(Text text, State state) {
            int before = size;
            for (int p = 0; p < text.size; p++) {
                char c = text.signAt(p);
                if (c == ';') {
                    closeLine();
                } else if (size < WORDS && sizes[size] < SIGNS) {
                    int place = sizes[size];
                    letters[size][place] = letterOf(c);
                    state.unsaid[size] |= isSaid(c) ? 0 : 1 << place;
                    sizes[size]++;
                }
            }
            closeLine();
            return size - before;
        }

        private void closeLine() {
            if (size < WORDS) {
                wholeCodes[size] = bare(size, 0);
                size++;
            }
        }

        private static int letterOf(char c) {
            if (c >= 'a' && c <= 'h') {
                return c - 'a';
            }
            return c >= 'A' && c <= 'H' ? c - 'A' : NONE;
        }

        private static boolean isSaid(char c) {
            return c >= 'a';
        }

        int mute(State state, int word, int i) {
            if (!hasSign(word, i)) {
                return NONE;
            }
            int unsaid = state.unsaid[word] ^ 1 << i;
            int said = sizes[word] - Integer.bitCount(unsaid);
            if (said == 0) {
                return NO_WAY;
            }
            state.unsaid[word] = unsaid;
            return said;
        }

        int placesOf(int word, int set) {
            int bits = 0;
            for (int i = 0; i < sizes[word]; i++) {
                bits |= (set >> letters[word][i] & 1) << i;
            }
            return bits;
        }

        int lettersAt(int word, int places) {
            int bits = 0;
            for (int i = 0; i < sizes[word]; i++) {
                bits |= (places >> i & 1) << letters[word][i];
            }
            return bits;
        }

        int unsaidLetters(State state) {
            int bits = 0;
            for (int word = 0; word < size; word++) {
                bits |= lettersAt(word, state.unsaid[word]);
            }
            return bits;
        }

        /** The places that a WORD loses by a strike. */
        int gone(State state, int word, int strike) {
            return state.unsaid[word] & placesOf(word, strike);
        }

        /**
         * A WORD without some places as one number. Each letter has four bits that are
         * not all 0, so two rows are the same just if their numbers are.
         */
        int bare(int word, int gone) {
            int code = 0;
            for (int i = 0; i < sizes[word]; i++) {
                if ((gone >> i & 1) == 0) {
                    code = code << 4 | letters[word][i] + 1;
                }
            }
            return code;
        }

        int spell(State state, int word, int strike) {
            return bare(word, gone(state, word, strike));
        }

        void spellAll(State state, int strike, int[] codes) {
            for (int word = 0; word < size; word++) {
                codes[word] = spell(state, word, strike);
            }
        }

        boolean areOne(State state, int one, int other, int strike) {
            return spell(state, one, strike) == spell(state, other, strike);
        }

        boolean areTwins(int one, int other) {
            return wholeCodes[one] == wholeCodes[other];
        }
    }

    /** A RULE, read into things in the order in which they are worked out. */
    private static final class Rule {
        private static final int MOST = 40;
        private static final int DEEPEST = 4;
        private static final int MINUS_AHEAD = 256;
        private static final String THINGS = "mousndi";
        private static final String PLAIN = "m-o*2-3";
        // A number as it is, a thing as -1 less its place in THINGS, a sign between or ahead as less its number.
        private final int[] code = new int[MOST];
        private int size;
        private final int[] stack = new int[MOST];
        private int top;
        private final boolean[] compared = new boolean[DEEPEST + 1];
        private int depth;
        private int digits;
        private boolean wantsThing;

        void bePlain() {
            begin();
            for (int p = 0; p < PLAIN.length(); p++) {
                accepts(PLAIN.charAt(p));
            }
            moveDownTo(1);
        }

        void copy(Rule from) {
            System.arraycopy(from.code, 0, code, 0, MOST);
            size = from.size;
        }

        /** Takes what a text tells; where it can't stand, or NONE. */
        int read(Text text) {
            if (text.size == 0) {
                bePlain();
                return NONE;
            }
            begin();
            int end = Math.min(text.size, MOST);
            for (int p = 0; p < end; p++) {
                if (!accepts(text.signAt(p))) {
                    return p;
                }
            }
            if (text.size > MOST || wantsThing || depth > 0) {
                return end;
            }
            moveDownTo(1);
            return NONE;
        }

        private void begin() {
            size = 0;
            top = 0;
            depth = 0;
            digits = 0;
            wantsThing = true;
            compared[0] = false;
        }

        private boolean accepts(char c) {
            if (c >= '0' && c <= '9') {
                return acceptsDigit(c - '0');
            }
            digits = 0;
            if (!wantsThing) {
                return c == ')' ? closes() : acceptsBetween(c);
            }
            if (c == '-') {
                push(MINUS_AHEAD);
                return true;
            }
            if (c == '(') {
                return opens();
            }
            int thing = THINGS.indexOf(c);
            if (thing < 0) {
                return false;
            }
            emit(-1 - thing);
            wantsThing = false;
            return true;
        }

        private boolean acceptsDigit(int digit) {
            if (wantsThing) {
                emit(digit);
                digits = 1;
                wantsThing = false;
                return true;
            }
            if (digits == 0 || digits == 3 || size == 0) {
                return false;
            }
            code[size - 1] = code[size - 1] * 10 + digit;
            digits++;
            return true;
        }

        private boolean opens() {
            if (depth == DEEPEST) {
                return false;
            }
            depth++;
            compared[depth] = false;
            push('(');
            return true;
        }

        private boolean closes() {
            if (depth == 0) {
                return false;
            }
            depth--;
            moveDownTo(1);
            pop();
            return true;
        }

        private boolean acceptsBetween(char c) {
            int rank = rankOf(c);
            if (rank == 0 || rank == 1 && compared[depth]) {
                return false;
            }
            compared[depth] = compared[depth] || rank == 1;
            moveDownTo(rank);
            push(c);
            wantsThing = true;
            return true;
        }

        /** What binds as much or more and waits comes first. */
        private void moveDownTo(int rank) {
            for (int left = top; left > 0 && rankOf(stack[left - 1]) >= rank; left--) {
                emit(-pop());
            }
        }

        private static int rankOf(int sign) {
            switch (sign) {
                case '<':
                case '>':
                case '=':
                    return 1;
                case '+':
                case '-':
                    return 2;
                case '*':
                case '/':
                    return 3;
                case MINUS_AHEAD:
                    return 4;
                default:
                    return 0;
            }
        }

        private void emit(int thing) {
            if (size < MOST) {
                code[size] = thing;
                size++;
            }
        }

        private void push(int number) {
            if (top < MOST) {
                stack[top] = number;
                top++;
            }
        }

        private int pop() {
            if (top == 0) {
                return 0;
            }
            top--;
            return stack[top];
        }

        int workOut(int[] things) {
            top = 0;
            for (int p = 0; p < size; p++) {
                int step = code[p];
                if (step >= 0) {
                    push(step);
                } else if (step >= -things.length) {
                    push(things[-1 - step]);
                } else if (step == -MINUS_AHEAD) {
                    push(-pop());
                } else {
                    int right = pop();
                    push(between(-step, pop(), right));
                }
            }
            return pop();
        }

        private static int between(int sign, int left, int right) {
            switch (sign) {
                case '<':
                    return left < right ? 1 : 0;
                case '>':
                    return left > right ? 1 : 0;
                case '=':
                    return left == right ? 1 : 0;
                case '+':
                    return left + right;
                case '-':
                    return left - right;
                case '*':
                    return left * right;
                default:
                    return right == 0 ? 0 : left / right;
            }
        }
    }

    /** GRUDGES, and DAYS that go by. */
    private static final class Union {
        private static final int MOST_FALLS = 9999;
        private final Book book;
        private final int[] codes = new int[WORDS];
        private final int[] things = new int[7];
        final int[] unsaid = new int[LETTERS];
        final int[] said = new int[LETTERS];
        int fell;
        int struckDays;

        Union(Book book) {
            this.book = book;
        }

        /** Counts the SIGNS of each LETTER; grudge() and priceOf() use what it counted. */
        void tally(State state) {
            Arrays.fill(unsaid, 0);
            Arrays.fill(said, 0);
            for (int word = 0; word < book.size; word++) {
                for (int i = 0; i < book.sizes[word]; i++) {
                    int letter = book.letters[word][i];
                    int mute = state.unsaid[word] >> i & 1;
                    unsaid[letter] += mute;
                    said[letter] += 1 - mute;
                }
            }
        }

        int grudge(Rule rule, State state, int letter, int offer) {
            things[0] = state.moods[letter];
            things[1] = offer;
            things[2] = unsaid[letter];
            things[3] = said[letter];
            things[4] = Integer.bitCount(state.strike);
            things[5] = state.day % 7;
            things[6] = letter;
            return rule.workOut(things);
        }

        /** The least to be added to a LETTER's OFFER so that it has no GRUDGE, or NONE. */
        int priceOf(Rule rule, State state, int letter) {
            for (int offer = state.offers[letter]; offer <= MOST_OFFER; offer++) {
                if (grudge(rule, state, letter, offer) <= 0) {
                    return offer - state.offers[letter];
                }
            }
            return NONE;
        }

        int strikers(Rule rule, State state) {
            tally(state);
            int bits = 0;
            for (int letter = 0; letter < LETTERS; letter++) {
                if (unsaid[letter] > 0 && grudge(rule, state, letter, state.offers[letter]) > 0) {
                    bits |= 1 << letter;
                }
            }
            return bits;
        }

        void passDays(Rule rule, State state, int n) {
            fell = 0;
            struckDays = 0;
            for (int day = 0; day < n; day++) {
                fell += passDay(rule, state);
                struckDays += state.strike == 0 ? 0 : 1;
            }
        }

        /** A DAY goes by; answers how many pairs fell. */
        int passDay(Rule rule, State state) {
            state.strike = strikers(rule, state);
            book.spellAll(state, state.strike, codes);
            int pairs = pairsThatFall();
            state.falls = Math.min(MOST_FALLS, state.falls + pairs);
            for (int letter = 0; letter < LETTERS; letter++) {
                if ((state.strike >> letter & 1) == 1) {
                    state.moods[letter] = Math.max(0, state.moods[letter] - 2);
                } else if (unsaid[letter] > 0) {
                    state.moods[letter] = Math.min(MOST_MOOD, state.moods[letter] + 1);
                }
            }
            state.day++;
            return pairs;
        }

        private int pairsThatFall() {
            int pairs = 0;
            for (int one = 0; one < book.size; one++) {
                for (int other = one + 1; other < book.size; other++) {
                    pairs += codes[one] == codes[other] && !book.areTwins(one, other) ? 1 : 0;
                }
            }
            return pairs;
        }
    }

    /** How far WORDS are apart, and the steps between them. */
    private static final class Measure {
        private final Book book;
        private final int[] first = new int[SIGNS];
        private final int[] second = new int[SIGNS];
        private int firstSize;
        private int secondSize;
        private final int[][] table = new int[SIGNS + 1][SIGNS + 1];
        private final boolean[] near = new boolean[WORDS * WORDS];
        final int[] steps = new int[WORDS];

        Measure(Book book) {
            this.book = book;
        }

        private int lay(State state, int word, int strike, int[] into) {
            int gone = book.gone(state, word, strike);
            int length = 0;
            for (int i = 0; i < book.sizes[word]; i++) {
                if ((gone >> i & 1) == 0) {
                    into[length] = book.letters[word][i];
                    length++;
                }
            }
            return length;
        }

        private void layBoth(State state, int one, int other, int strike) {
            firstSize = lay(state, one, strike, first);
            secondSize = lay(state, other, strike, second);
        }

        int edits(State state, int one, int other, int strike) {
            layBoth(state, one, other, strike);
            for (int i = 0; i <= firstSize; i++) {
                for (int j = 0; j <= secondSize; j++) {
                    table[i][j] = i == 0 || j == 0 ? i + j : editsAt(i, j);
                }
            }
            return table[firstSize][secondSize];
        }

        private int editsAt(int i, int j) {
            int put = table[i - 1][j - 1] + (first[i - 1] == second[j - 1] ? 0 : 1);
            return Math.min(put, Math.min(table[i - 1][j], table[i][j - 1]) + 1);
        }

        int inCommon(State state, int one, int other, int strike) {
            layBoth(state, one, other, strike);
            for (int i = 0; i <= firstSize; i++) {
                for (int j = 0; j <= secondSize; j++) {
                    table[i][j] = i == 0 || j == 0 ? 0 : inCommonAt(i, j);
                }
            }
            return table[firstSize][secondSize];
        }

        private int inCommonAt(int i, int j) {
            if (first[i - 1] == second[j - 1]) {
                return table[i - 1][j - 1] + 1;
            }
            return Math.max(table[i - 1][j], table[i][j - 1]);
        }

        /** By WORDS how many steps of k or less it takes to a goal, or NONE. */
        void stepsTo(State state, int goal, int k) {
            markNear(state, k);
            Arrays.fill(steps, NONE);
            steps[goal] = 0;
            for (int far = 0; far < WORDS; far++) {
                for (int word = 0; word < book.size; word++) {
                    if (steps[word] == NONE && stepFrom(word, far) != NONE) {
                        steps[word] = far + 1;
                    }
                }
            }
        }

        private void markNear(State state, int k) {
            for (int one = 0; one < book.size; one++) {
                for (int other = 0; other < one; other++) {
                    boolean isNear = edits(state, one, other, state.strike) <= k;
                    near[one * WORDS + other] = isNear;
                    near[other * WORDS + one] = isNear;
                }
            }
        }

        /** The first WORD beside one that is so many steps from the goal, or NONE. */
        int stepFrom(int word, int left) {
            if (!book.has(word)) {
                return NONE;
            }
            for (int other = 0; other < book.size; other++) {
                if (steps[other] == left && near[word * WORDS + other]) {
                    return other;
                }
            }
            return NONE;
        }
    }

    /** What was noticed. */
    private static final class Notices {
        private static final int MOST = 12;
        private final int[] ones = new int[MOST];
        private final int[] others = new int[MOST];
        private final boolean[] were = new boolean[MOST];
        int size;

        boolean hasRoom() {
            return size < MOST;
        }

        void take(int one, int other, int is) {
            if (size < MOST) {
                ones[size] = one;
                others[size] = other;
                were[size] = is == 1;
                size++;
            }
        }

        boolean agreeWith(int[] codes) {
            for (int i = 0; i < size; i++) {
                if (codes[ones[i]] == codes[others[i]] != were[i]) {
                    return false;
                }
            }
            return true;
        }
    }

    /** How the acts of A YEAR are told. */
    private static final class Acts {
        private static final int MOST_TEXT = 60;

        /** How many signs an act has, 0 if there is none such. */
        static int lengthOf(int act) {
            switch (act) {
                case 'n':
                    return 2;
                case 'o':
                case 'r':
                case 'q':
                case 'x':
                    return 3;
                default:
                    return 0;
            }
        }

        /** Where the text can't stand, or NONE. */
        static int faultIn(Text text) {
            int end = Math.min(text.size, MOST_TEXT);
            char act = 'n';
            int place = 0;
            for (int p = 0; p < end; p++) {
                char c = text.signAt(p);
                act = place == 0 ? c : act;
                if (!canStand(act, place, c)) {
                    return p;
                }
                place = place + 1 == lengthOf(act) ? 0 : place + 1;
            }
            return text.size > MOST_TEXT || place > 0 ? end : NONE;
        }

        private static boolean canStand(char act, int place, char c) {
            if (place == 0) {
                return lengthOf(c) > 0;
            }
            if (place == 1 && act != 'n' && act != 'x') {
                return c >= 'a' && c <= 'h';
            }
            char least = act == 'r' || act == 'q' ? '1' : '0';
            return c >= least && c <= '9';
        }
    }
}
