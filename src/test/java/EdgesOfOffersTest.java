/** Edges that the promises 34 to 41 name: offers, votes, chances, a game, laws, rests, years. */
public final class EdgesOfOffersTest {
    private static final int LEAST = Integer.MIN_VALUE;
    private static final int GREATEST = Integer.MAX_VALUE;
    // H and A are unsaid once each; by h words 0 and 1 are one, by a words 2 and 3.
    private static final String FOUR = "Hab;ab;cAb;cb";
    // Every letter is unsaid once, and no strike makes the two one.
    private static final String UNSAID = "aBCDEFGH;bA";
    // Only if all eight strike are these one.
    private static final String ALL_OR_NOT = "aABCDEFG;aH";

    private static final Check check = new Check();

    public static void main(String[] args) {
        calmsOfNone();
        calmsUpToNine();
        calmsCannot();
        calmsFromTheOfferThatIs();
        calmsTheLeastThatDoes();
        buysZeroTo99();
        buysRefused();
        buysTheMostForV();
        buysTheCheapestThenTheLeast();
        buysGrudgesAboveZeroAlone();
        buysWhatCanBeBought();
        offersAndVotesAtOnce();
        powerOfNone();
        powerAtHalf();
        powerOfAll();
        powerRefused();

        misreadZeroToTen();
        misreadInLowestTerms();
        misreadRefused();
        gameOfNoneAndOne();
        gameUpToSixty();
        gameTakesNoMoreThanAreLeft();
        gameTakesTwoToNine();
        gameRefused();

        lawEmpty();
        lawOfNobody();
        lawFaultsFrom10000On();
        lawIsTriedAlone();
        lawOfAllThingsAtOnce();
        restsOfAllNumbers();
        restsRefused();
        yearsOneToSixty();
        yearsRefused();
        yearsByDraws();
        yearsGoAround();
        yearsWithoutWords();
        yearsMuteIfItCanBe();
        yearsTellFallsAside();
        check.end();
    }

    // ---- 34, 35: calms, buys

    private static void calmsOfNone() {
        SilentLetters none = new SilentLetters();
        check.asks("34: no words", none, none::calms, 0, "0 0 0 0 0 0 0 0");
        SilentLetters said = Check.withWords("abcdefgh");
        Check.rule(said, "99");
        check.asks("34: all is said", said, said::calms, 0, "0 0 0 0 0 0 0 0");
        SilentLetters x = Check.withWords(UNSAID);
        Check.rule(x, "0");
        check.asks("34: none has a grudge above 0", x, x::calms, 0, "0 0 0 0 0 0 0 0");
        Check.rule(x, "1-o");
        check.asks("34: a grudge of 1", x, x::calms, 8, "1 1 1 1 1 1 1 1");
    }

    private static void calmsUpToNine() {
        SilentLetters x = Check.withWords(UNSAID);
        x.days(0);
        Check.rule(x, "9-o");
        check.asks("34: nine each", x, x::calms, 72, "9 9 9 9 9 9 9 9");
        Check.rule(x, "8-o");
        check.asks("34: eight each", x, x::calms, 64, "8 8 8 8 8 8 8 8");
        Check.rule(x, "10-o");
        check.leaves("34: ten each", x, x::calms, -2);
    }

    private static void calmsCannot() {
        SilentLetters x = Check.withWords(UNSAID);
        x.days(0);
        Check.rule(x, "10-o-(i<7)");
        check.leaves("34: but the last", x, x::calms, -2);
        Check.rule(x, "10-o-(i>0)");
        check.leaves("34: but the first", x, x::calms, -2);
        Check.rule(x, "9-o+(i=0)*(u=0)");
        check.asks("34: all", x, x::calms, 72, "9 9 9 9 9 9 9 9");
        x.mutes(1, 1);
        Check.rule(x, "(i=0)+9-o");
        check.asks("34: the first is said", x, x::calms, 63, "0 9 9 9 9 9 9 9");
    }

    private static void calmsFromTheOfferThatIs() {
        SilentLetters x = Check.withWords("aBCDE");
        x.offer(1, 9);
        x.offer(2, 8);
        x.offer(3, 1);
        Check.rule(x, "9-o");
        check.asks("34: what is to be added", x, x::calms, 18, "0 0 1 8 9 0 0 0");
        Check.rule(x, "10-o");
        check.leaves("34: 9 at most in all", x, x::calms, -2);
        // less would do, but there is more already
        Check.rule(x, "o=9");
        check.leaves("34: none is taken back", x, x::calms, -2);
    }

    private static void calmsTheLeastThatDoes() {
        SilentLetters x = Check.withWords("aB");
        Check.rule(x, "(o=0)+(o=2)+(o=3)");
        check.asks("34: from 0 on", x, x::calms, 1, "0 1 0 0 0 0 0 0");
        x.offer(1, 2);
        check.asks("34: from 2 on", x, x::calms, 2, "0 2 0 0 0 0 0 0");
        Check.rule(x, "1");
        x.days(1);
        Check.rule(x, "n-o+2");
        check.asks("34: n as now", x, x::calms, 1, "0 1 0 0 0 0 0 0");
    }

    private static void buysZeroTo99() {
        SilentLetters x = Check.withWords(UNSAID);
        Check.rule(x, "9-o");
        for (int v = 0; v <= 99; v++) {
            int with = v;
            int bought = Math.min(8, v / 9);
            String row = ((1 << bought) - 1) + " " + (v - 9 * bought);
            check.asks("35: buys(" + v + ")", x, () -> x.buys(with), bought, row);
        }
        SilentLetters none = new SilentLetters();
        check.asks("35: no words, 0", none, () -> none.buys(0), 0, "0 0");
        check.asks("35: no words, 99", none, () -> none.buys(99), 0, "0 99");
    }

    private static void buysRefused() {
        SilentLetters x = Check.withWords(UNSAID);
        x.days(1);
        for (int v : new int[] {-1, 100, LEAST, GREATEST}) {
            check.leaves("35: buys(" + v + ")", x, () -> x.buys(v), -1);
        }
    }

    private static void buysTheMostForV() {
        // letter i costs i + 1: 1, 3, 6, 10, 15, 21, 28, 36 for the cheapest ones
        SilentLetters x = Check.withWords(UNSAID);
        Check.rule(x, "i+1-o");
        int[] sums = {0, 1, 3, 6, 10, 15, 21, 28, 36};
        for (int n = 1; n <= 8; n++) {
            int most = n;
            int sum = sums[n];
            check.asks("35: " + sum, x, () -> x.buys(sum), n, ((1 << n) - 1) + " 0");
            String row = ((1 << n - 1) - 1) + " " + (sum - 1 - sums[n - 1]);
            check.asks("35: 1 less than " + sum, x, () -> x.buys(sum - 1), most - 1, row);
        }
    }

    private static void buysTheCheapestThenTheLeast() {
        SilentLetters x = Check.withWords(UNSAID);
        // a costs 3, the others 2
        Check.rule(x, "2+(i=0)-o");
        check.asks("35: the cheapest, not the least", x, () -> x.buys(3), 1, "2 1");
        check.asks("35: of as cheap ones the least", x, () -> x.buys(4), 2, "6 0");
        check.asks("35: of as cheap ones the least", x, () -> x.buys(5), 2, "6 1");
        check.asks("35: all but a", x, () -> x.buys(16), 7, "254 2");
        check.asks("35: and a", x, () -> x.buys(17), 8, "255 0");
    }

    private static void buysGrudgesAboveZeroAlone() {
        SilentLetters x = Check.withWords(UNSAID);
        Check.rule(x, "i-o");
        check.asks("35: a has none", x, () -> x.buys(99), 7, "254 71");
        Check.rule(x, "i-6-o");
        check.asks("35: h alone has one", x, () -> x.buys(99), 1, "128 98");
        Check.rule(x, "i-7-o");
        check.asks("35: none has one", x, () -> x.buys(99), 0, "0 99");
        SilentLetters y = Check.withWords("aB");
        Check.rule(y, "1-o");
        check.asks("35: b alone is unsaid", y, () -> y.buys(99), 1, "2 98");
    }

    private static void buysWhatCanBeBought() {
        SilentLetters x = Check.withWords(UNSAID);
        Check.rule(x, "9+(i=3)-o");
        check.asks("35: d can't be", x, () -> x.buys(99), 7, "247 36");
        x.offer(0, 9);
        x.offer(1, 8);
        check.asks("35: a is, b almost is", x, () -> x.buys(1), 1, "2 0");
        Check.rule(x, "10-o");
        check.asks("35: none can be", x, () -> x.buys(99), 0, "0 99");
    }

    private static void offersAndVotesAtOnce() {
        SilentLetters x = Check.withWords("aBC");
        for (int i = 0; i < 2; i++) {
            check.tells("34: b and c are unsaid", x, x.calms(), 2, "0 1 1 0 0 0 0 0");
            x.mutes(0, 1);
            check.tells("34: b is said at once", x, x.calms(), 1, "0 0 1 0 0 0 0 0");
            x.mutes(0, 1);
            check.tells("35: b is unsaid at once", x, x.buys(9), 2, "6 7");
            x.mutes(0, 1);
            check.tells("35: b is said at once", x, x.buys(9), 1, "4 8");
            x.mutes(0, 1);
            check.tells("36: b is unsaid at once", x, x.power(1), 64, "1 2");
            x.mutes(0, 1);
            check.tells("36: b is said at once", x, x.power(1), 0, "0 1");
            check.tells("36: c alone is unsaid", x, x.power(2), 128, "1 1");
            x.mutes(0, 1);
        }
    }

    // ---- 36: power

    private static void powerOfNone() {
        SilentLetters none = new SilentLetters();
        check.asks("36: no words", none, () -> none.power(0), 0, "0 1");
        SilentLetters said = Check.withWords("ab");
        check.asks("36: no votes", said, () -> said.power(0), 0, "0 1");
        SilentLetters x = Check.withWords("aB");
        check.asks("36: no vote of a", x, () -> x.power(0), 0, "0 1");
        check.asks("36: the only vote", x, () -> x.power(1), 128, "1 1");
    }

    private static void powerAtHalf() {
        // two votes: one is half of all, or less; both are more
        SilentLetters two = Check.withWords("aBC");
        check.asks("36: of two", two, () -> two.power(1), 64, "1 2");
        // three votes: one is less than half, two are more
        SilentLetters three = Check.withWords("aBCD");
        check.asks("36: of three", three, () -> three.power(3), 64, "1 3");
        // b has two of four, which is half: it turns those that have 1 or 2
        SilentLetters four = Check.withWords("aBBCD");
        check.asks("36: half of four", four, () -> four.power(1), 96, "3 5");
        check.asks("36: a quarter of four", four, () -> four.power(2), 32, "1 5");
        // b has three of five, which is more than half: it turns all, the others none
        SilentLetters five = Check.withWords("aBBBCD");
        check.asks("36: more than half", five, () -> five.power(1), 128, "1 1");
        check.asks("36: the others", five, () -> five.power(2), 0, "0 1");
    }

    private static void powerOfAll() {
        // eight votes: those with four of the other seven, 35 sets
        SilentLetters x = Check.withWords(UNSAID);
        for (int letter = 0; letter < 8; letter++) {
            int of = letter;
            check.asks("36: one of eight", x, () -> x.power(of), 35, "1 8");
        }
        // seven votes: those with three of the other six, 20 sets, with a or without
        SilentLetters y = Check.withWords("aBCDEFGH");
        check.asks("36: one of seven", y, () -> y.power(7), 40, "1 7");
        check.asks("36: none of seven", y, () -> y.power(0), 0, "0 1");
    }

    private static void powerRefused() {
        SilentLetters x = Check.withWords(UNSAID);
        x.days(0);
        for (int letter : new int[] {-1, 8, LEAST, GREATEST}) {
            check.leaves("36: power(" + letter + ")", x, () -> x.power(letter), -1);
        }
    }

    // ---- 37: misread

    private static void misreadZeroToTen() {
        SilentLetters x = Check.withWords("aB;a;c;AB");
        check.is("4: AB says nothing", x.count(0), 0);
        Check.words(x, "aB;a;c;bA");
        String[] due = {"0 1", "1 10", "1 5", "3 10", "2 5", "1 2", "3 5", "7 10", "4 5", "9 10", "1 1"};
        for (int p = 0; p <= 10; p++) {
            int by = p;
            check.asks("37: by b", x, () -> x.misread(0, 1, by), 0, due[p]);
            check.asks("37: by b", x, () -> x.misread(1, 0, by), 0, due[p]);
            check.asks("37: by none", x, () -> x.misread(1, 2, by), 0, "0 1");
        }
        SilentLetters twins = Check.withWords("ab;ab");
        check.asks("37: ever", twins, () -> twins.misread(0, 1, 0), 0, "1 1");
        check.asks("37: ever", twins, () -> twins.misread(0, 1, 7), 0, "1 1");
        check.asks("37: ever", twins, () -> twins.misread(0, 1, 10), 0, "1 1");
    }

    private static void misreadInLowestTerms() {
        SilentLetters x = Check.withWords(ALL_OR_NOT);
        String[] due = {"0 1", "1 100000000", "1 390625", "6561 100000000", "256 390625", "1 256", "6561 390625",
            "5764801 100000000", "65536 390625", "43046721 100000000", "1 1"};
        for (int p = 0; p <= 10; p++) {
            int by = p;
            check.asks("37: by all eight", x, () -> x.misread(0, 1, by), 0, due[p]);
        }
        // alike only if none strikes
        SilentLetters y = Check.withWords("abcdefgH;ABCDEFGh");
        for (int p = 0; p <= 10; p++) {
            int by = p;
            check.asks("37: by none of eight", y, () -> y.misread(0, 1, by), 0, due[10 - p]);
        }
    }

    private static void misreadRefused() {
        SilentLetters x = Check.withWords(FOUR);
        x.looks(0, 0);
        int[][] refused = {{0, 1, -1}, {0, 1, 11}, {-1, 0, 5}, {0, -1, 5}, {4, 0, 5}, {0, 4, 5}, {0, 0, 5}, {3, 3, 5}, {4, 4, 5},
            {LEAST, 0, 5}, {0, GREATEST, 5}, {0, 1, LEAST}, {0, 1, GREATEST}};
        for (int[] r : refused) {
            check.leaves("37: misread(" + r[0] + ", " + r[1] + ", " + r[2] + ")", x, () -> x.misread(r[0], r[1], r[2]), -1);
        }
        SilentLetters none = new SilentLetters();
        check.leaves("37: no words", none, () -> none.misread(0, 1, 5), -1);
    }

    // ---- 38: game

    private static void gameOfNoneAndOne() {
        SilentLetters x = Check.withWords(FOUR);
        x.days(1);
        for (int most = 2; most <= 9; most++) {
            int by = most;
            check.leaves("38: none is there", x, () -> x.game(0, by, by), -2);
            check.leaves("38: one is there, who takes it has lost", x, () -> x.game(1, by, by), 0);
            check.leaves("38: two are there", x, () -> x.game(2, by, by), 1);
        }
    }

    private static void gameUpToSixty() {
        SilentLetters x = new SilentLetters();
        // 1 or 2 each: 1, 4, 7, .. are lost; 1 or an odd number each: all odd ones are lost
        for (int n = 1; n <= 60; n++) {
            check.is("38: game(" + n + ", 2, 2)", x.game(n, 2, 2), (n + 2) % 3);
            check.is("38: game(" + n + ", 9, 9)", x.game(n, 9, 9), n % 2 == 0 ? 1 : 0);
            check.is("38: game(" + n + ", 3, 5)", x.game(n, 3, 5), n % 2 == 0 ? 1 : 0);
        }
        for (int n : new int[] {-1, 61, 64, LEAST, GREATEST}) {
            check.leaves("38: game(" + n + ", 2, 2)", x, () -> x.game(n, 2, 2), -1);
        }
    }

    private static void gameTakesNoMoreThanAreLeft() {
        SilentLetters x = new SilentLetters();
        // who may take a, and leaves 1, wins; who takes all has lost; against 1 or 2 an office of 1 or 9 loses 3 to 9
        for (int n = 3; n <= 9; n++) {
            check.is("38: game(" + n + ", 9, 2)", x.game(n, 9, 2), 0);
        }
        check.is("38: nine leave one", x.game(10, 9, 2), 9);
        check.is("38: nine leave two", x.game(11, 9, 2), 0);
        // and a union of 1 or 9 loses 3 to 9, wins 10: the office leaves 9 or less
        for (int n = 4; n <= 10; n++) {
            check.is("38: game(" + n + ", 2, 9)", x.game(n, 2, 9), 1);
        }
        check.is("38: game(3, 2, 9)", x.game(3, 2, 9), 2);
        check.is("38: game(11, 2, 9)", x.game(11, 2, 9), 2);
    }

    private static void gameTakesTwoToNine() {
        SilentLetters x = new SilentLetters();
        int[][] refused = {{5, 1, 2}, {5, 2, 1}, {5, 10, 2}, {5, 2, 10}, {5, 0, 2}, {5, 2, 0}, {5, -2, 2}, {5, 2, -2},
            {0, 1, 2}, {0, 2, 1}, {0, 10, 2}, {0, 2, 10}, {60, 10, 9}, {60, 9, 10}, {5, LEAST, 2}, {5, 2, GREATEST}};
        for (int[] r : refused) {
            check.leaves("38: game(" + r[0] + ", " + r[1] + ", " + r[2] + ")", x, () -> x.game(r[0], r[1], r[2]), -1);
        }
        for (int a = 2; a <= 9; a++) {
            for (int b = 2; b <= 9; b++) {
                for (int n = 1; n <= 60; n++) {
                    check.is("38: game(" + n + ", " + a + ", " + b + ")", x.game(n, a, b), taken(n, a, b));
                }
            }
        }
    }

    /** The game told once more, from the heap of 1 up. */
    private static int taken(int n, int a, int b) {
        boolean[] officeWins = new boolean[n + 1];
        boolean[] unionWins = new boolean[n + 1];
        // an empty heap: the other took the last one, so who is next has won
        officeWins[0] = true;
        unionWins[0] = true;
        for (int heap = 1; heap <= n; heap++) {
            officeWins[heap] = !unionWins[heap - 1] || heap >= a && !unionWins[heap - a];
            unionWins[heap] = !officeWins[heap - 1] || heap >= b && !officeWins[heap - b];
        }
        return !officeWins[n] ? 0 : !unionWins[n - 1] ? 1 : a;
    }

    private static void gameRefused() {
        SilentLetters x = Check.withWords(FOUR);
        x.days(1);
        check.leaves("38: it has no ROW", x, () -> x.game(5, 2, 2), 1);
        check.leaves("38: refused", x, () -> x.game(61, 2, 2), -1);
    }

    // ---- 39: law

    private static void lawEmpty() {
        SilentLetters x = Check.withWords(FOUR);
        check.asks("39: none at first", x, x::law, 129, "129 2 2 2 2 2 2 2 2");
        Check.rule(x, "i-6");
        check.asks("39: none beside a rule", x, x::law, 129, "128 2 2 2 2 2 2 2 2");
    }

    private static void lawOfNobody() {
        SilentLetters none = new SilentLetters();
        check.is("39: no words", Check.law(none, "1"), 0);
        check.is("39: grudges without words", Check.row(none), "0 1 1 1 1 1 1 1 1");
        SilentLetters x = Check.withWords(UNSAID);
        Check.rule(x, "1");
        check.is("39: by 0", Check.law(x, "0"), 0);
        check.is("39: all by the rule", Check.row(x), "255 0 0 0 0 0 0 0 0");
        Check.rule(x, "0");
        check.is("39: by 1", Check.law(x, "1"), 255);
        check.is("39: none by the rule", Check.row(x), "0 1 1 1 1 1 1 1 1");
        check.is("39: by the greatest", Check.law(x, "128*128*128*128*8-(i=7)"), 128);
        check.is("39: the ends of ints", Check.row(x),
                "0 -2147483648 -2147483648 -2147483648 -2147483648 -2147483648 -2147483648 -2147483648 2147483647");
    }

    private static void lawFaultsFrom10000On() {
        SilentLetters x = Check.withWords(FOUR);
        x.days(1);
        String[] texts = {"z", "mz", "m+", "-".repeat(40), "-".repeat(41), "m" + "+1".repeat(19) + "z", "(((((m"};
        int[] due = {-10000, -10001, -10002, -10040, -10040, -10039, -10004};
        for (int i = 0; i < texts.length; i++) {
            Check.text(x, texts[i]);
            check.emptiesText("39: law " + texts[i], x, x::law, due[i]);
        }
    }

    private static void lawIsTriedAlone() {
        SilentLetters x = Check.withWords(FOUR);
        Check.rule(x, "i");
        Check.text(x, "1-i");
        String before = Check.seen(x);
        check.is("39: tried", x.law(), 1);
        check.is("39: nothing changes", Check.seen(x), before);
        check.is("39: the text is empty", x.count(11), 0);
        check.is("39: the ROW", Check.row(x), "128 1 0 -1 -2 -3 -4 -5 -6");
        check.is("10: the rule stays", x.days(1), 128);
    }

    private static void lawOfAllThingsAtOnce() {
        SilentLetters x = Check.withWords("aBB;cB");
        x.days(1);
        x.offer(2, 6);
        x.stirs(1, 4);
        // b alone is unsaid, three times; it struck (mood 3), was stirred up to 7, and is cross by the rule
        String[] things = {"m", "o", "u", "s", "n", "d", "i"};
        int[] strikes = {2, 0, 2, 0, 2, 2, 2};
        String[] rows = {"2 5 7 5 5 5 5 5 5", "2 0 0 6 0 0 0 0 0", "2 0 3 0 0 0 0 0 0", "2 1 0 1 0 0 0 0 0",
            "2 1 1 1 1 1 1 1 1", "2 1 1 1 1 1 1 1 1", "2 0 1 2 3 4 5 6 7"};
        for (int i = 0; i < things.length; i++) {
            check.tells("39: law " + things[i], x, Check.law(x, things[i]), strikes[i], rows[i]);
        }
        x.mutes(0, 1);
        check.tells("39: two are unsaid now", x, Check.law(x, "u-2"), 0, "2 -2 0 -2 -2 -2 -2 -2 -2");
    }

    // ---- 40: rests

    private static void restsOfAllNumbers() {
        SilentLetters x = new SilentLetters();
        int[] pairs = {1, 3, 4, 2};
        String[] rows = {"0 0", "0 0", "0 0", "0 1"};
        for (int v = 0; v <= 20; v++) {
            int of = v;
            x.days(0);
            check.asks("40: rests(" + v + ")", x, () -> x.rests(of), v < 4 ? pairs[v] : 0, v < 4 ? rows[v] : "");
        }
    }

    private static void restsRefused() {
        SilentLetters x = new SilentLetters();
        x.rests(3);
        for (int v : new int[] {-1, 21, -3, LEAST, GREATEST}) {
            check.leaves("40: rests(" + v + ")", x, () -> x.rests(v), -1);
        }
    }

    // ---- 41: years

    private static void yearsOneToSixty() {
        SilentLetters x = Check.withWords(FOUR);
        for (int n = 1; n <= 60; n++) {
            sameAsByHand(x, FOUR, 12345, n);
        }
    }

    private static void yearsRefused() {
        SilentLetters x = Check.withWords(FOUR);
        x.days(1);
        for (int n : new int[] {0, 61, -1, LEAST, GREATEST}) {
            check.leaves("41: years(0, " + n + ")", x, () -> x.years(0, n), -1);
        }
    }

    private static void yearsByDraws() {
        SilentLetters x = Check.withWords(FOUR);
        // R is 12345 at first, by 65536 is 0: a day
        check.asks("41: seed 0", x, () -> x.years(0, 1), 2, "129 36");
        // R is 1103527590, by 65536 is 16838, by 4 leaves 2: an offer
        check.asks("41: seed 1", x, () -> x.years(1, 1), 0, "0 40");
        // R is 1103515245 times -1 and 12345: -1103502900, without sign 3191464396, by 65536 is 48697, leaves 1: a day
        check.asks("41: seed -1", x, () -> x.years(-1, 1), 2, "129 36");
    }

    private static void yearsGoAround() {
        int[] seeds = {0, 1, -1, 2, LEAST, LEAST + 1, GREATEST, GREATEST - 1, 65536, -65536, 32768, 987654321};
        String[] words = {FOUR, UNSAID, ALL_OR_NOT, "a;aB;aC;aD;aE;aF;aG;aH", "aB", "ab;b"};
        for (String text : words) {
            SilentLetters x = Check.withWords(text);
            for (int seed : seeds) {
                sameAsByHand(x, text, seed, 1);
                sameAsByHand(x, text, seed, 60);
            }
        }
    }

    /** The draws by longs, and what they tell done on another object by the calls of the face. */
    private static void sameAsByHand(SilentLetters x, String words, int seed, int n) {
        SilentLetters y = Check.withWords(words);
        long r = seed & 0xFFFFFFFFL;
        int fell = 0;
        for (int time = 0; time < n; time++) {
            r = drawn(r);
            int kind = told(r, 4);
            if (kind < 2) {
                y.days(1);
                fell += y.row(0);
            } else if (kind == 2) {
                long second = drawn(r);
                r = drawn(second);
                y.offer(told(second, 8), told(r, 10));
            } else if (y.count(0) > 0) {
                long second = drawn(r);
                r = drawn(second);
                int word = told(second, y.count(0));
                y.mutes(word, told(r, y.word(word, 0)));
            }
        }
        check.asks("41: years(" + seed + ", " + n + ") of " + words, x, () -> x.years(seed, n), fell,
                y.count(2) + " " + y.count(4));
    }

    private static long drawn(long r) {
        return (r * 1103515245L + 12345L) & 0xFFFFFFFFL;
    }

    private static int told(long r, int n) {
        return (int) (r / 65536 % n);
    }

    private static void yearsWithoutWords() {
        SilentLetters x = new SilentLetters();
        for (int seed = 0; seed < 40; seed++) {
            sameAsByHand(x, "", seed, 60);
        }
    }

    private static void yearsMuteIfItCanBe() {
        // one sign that must be said: nothing can be muted, and years go on
        for (int seed = 0; seed < 20; seed++) {
            SilentLetters x = Check.withWords("a;b");
            sameAsByHand(x, "a;b", seed, 60);
            check.is("44: nothing is muted", x.count(6), 0);
        }
    }

    private static void yearsTellFallsAside() {
        String eight = "a;aB;aC;aD;aE;aF;aG;aH";
        SilentLetters x = Check.withWords(eight);
        Check.rule(x, "1");
        for (int i = 0; i < 6; i++) {
            x.days(60);
        }
        check.is("1: falls have stopped", x.count(3), 9999);
        // R is 12345 by seed 0: a day
        check.asks("41: those of this day", x, () -> x.years(0, 1), 28, "254 5");
    }
}
