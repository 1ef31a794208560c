/** Edges of a DAY, and those that the promises 9 to 15 name: sheets, days, offers, years, undone. */
public final class EdgesOfDaysTest {
    private static final int LEAST = Integer.MIN_VALUE;
    private static final int GREATEST = Integer.MAX_VALUE;
    // H and A are unsaid once each; by h words 0 and 1 are one, by a words 2 and 3.
    private static final String FOUR = "Hab;ab;cAb;cb";
    // By a strike of all, these eight are one: 28 pairs.
    private static final String EIGHT = "a;aB;aC;aD;aE;aF;aG;aH";
    // Every letter is unsaid once.
    private static final String UNSAID = "aBCDEFGH;bA";

    private static final Check check = new Check();

    public static void main(String[] args) {
        strikesAboveZeroAlone();
        saidLettersNeverStrike();
        allAsAheadOfTheDay();
        moodsStopAtZero();
        moodsStopAtNine();
        fallsOfPairsButTwins();
        fallsStopAt9999();
        dayIsOneMore();

        sheetOfKinds();
        sheetOfZeroToEight();
        sheetBelowZeroEntries();
        sheetMissing();
        sheetRefusesFirst();
        sheetPutsToEnds();
        sheetOfBytes();
        sheetOfShorts();
        sheetOfInts();
        sheetIsNoStepOfUndo();

        daysZeroToSixty();
        daysRefused();
        daysOfNone();
        daysTellFallsAside();
        offersZeroToNine();
        offersRefused();
        stirsUpToTheEnds();
        stirsRefused();
        mutesTheOnlySaidOne();
        mutesNoneSuch();

        emptyYear();
        everySignBeginsAnAct();
        yearDigits();
        yearLetters();
        yearEndsTooEarly();
        sixtySignsOfYear();
        moreThanSixtySignsOfYear();
        nothingIsDoneOfAFaultyYear();
        yearTillOneIsRefused();
        yearActsAtTheirEnds();

        undoNothing();
        undoFifteen();
        undoRefusedOnesAreNot();
        undoYearAsOne();
        undoYearWithoutActs();
        undoBringsBack();
        undoEachKindBringsBack();
        undoLeavesTheRest();
        wordsForgetWhatCanBeUndone();
        againForgetsWhatCanBeUndone();
        check.end();
    }

    // ---- a DAY goes by

    private static void strikesAboveZeroAlone() {
        String[] rules = {"0", "1", "-1", "i-6", "i-7", "i", "128*128*128*128*8", "128*128*128*128*8-1"};
        int[] due = {0, 255, 0, 128, 0, 254, 0, 255};
        for (int i = 0; i < rules.length; i++) {
            SilentLetters x = Check.withWords(UNSAID);
            Check.rule(x, rules[i]);
            check.is("1: who strikes by " + rules[i], x.days(1), due[i]);
            check.is("8: the first by " + rules[i], x.letter(0, 4), due[i] & 1);
            check.is("8: the last by " + rules[i], x.letter(7, 4), due[i] >> 7 & 1);
        }
        // none by moods of 3 or less, all by 4 or more
        for (int mood = 0; mood <= 9; mood++) {
            SilentLetters x = Check.withWords(UNSAID);
            x.sheet(2, 8, mood, 0);
            check.is("1: who strikes by a mood of " + mood, x.days(1), mood > 3 ? 255 : 0);
        }
    }

    private static void saidLettersNeverStrike() {
        SilentLetters x = Check.withWords("ab;cdG");
        Check.rule(x, "1");
        check.is("1: g alone is unsaid", x.days(1), 64);
        check.is("1: the moods of others stay", x.count(4), 38);
        x.mutes(1, 2);
        check.is("1: g is said", x.days(1), 0);
        check.is("1: all moods stay", x.count(4), 38);
        x.mutes(0, 0);
        check.is("1: a is unsaid", x.days(1), 1);
    }

    private static void allAsAheadOfTheDay() {
        SilentLetters x = Check.withWords(UNSAID);
        Check.rule(x, "n<8");
        check.is("1: n ahead of the first day", x.days(1), 255);
        check.is("1: n ahead of the second day", x.days(1), 0);
        check.is("1: n ahead of the third day", x.days(1), 255);
        Check.rule(x, "d=3");
        check.is("1: d ahead of the fourth day", x.days(1), 255);
        check.is("1: d ahead of the fifth day", x.days(1), 0);
        Check.rule(x, "m=3");
        x.sheet(2, 8, 3, 0);
        check.is("1: m ahead of the sixth day", x.days(1), 255);
        check.is("1: m ahead of the seventh day", x.days(1), 0);
    }

    private static void moodsStopAtZero() {
        int[] due = {0, 0, 0, 1, 2, 3, 4, 5, 6, 7};
        for (int mood = 0; mood <= 9; mood++) {
            SilentLetters x = Check.withWords("aB");
            Check.rule(x, "1");
            x.sheet(2, 8, mood, 0);
            x.days(1);
            check.is("1: 2 less than " + mood, x.letter(1, 0), due[mood]);
            check.is("1: a says something", x.letter(0, 0), mood);
            check.is("1: c is not there", x.letter(2, 0), mood);
        }
    }

    private static void moodsStopAtNine() {
        int[] due = {1, 2, 3, 4, 5, 6, 7, 8, 9, 9};
        for (int mood = 0; mood <= 9; mood++) {
            SilentLetters x = Check.withWords("aB");
            Check.rule(x, "0");
            x.sheet(2, 8, mood, 0);
            x.days(1);
            check.is("1: 1 more than " + mood, x.letter(1, 0), due[mood]);
            check.is("1: a says something", x.letter(0, 0), mood);
            check.is("1: c is not there", x.letter(2, 0), mood);
        }
    }

    private static void fallsOfPairsButTwins() {
        SilentLetters x = Check.withWords("aB;a;aB;Ab");
        Check.rule(x, "i=1");
        // a, a, a, Ab: 0-1 and 1-2 fell, 0-2 are twins; 3 is ab
        x.days(1);
        check.is("1: falls", x.count(3), 2);
        check.is("10: the ROW", Check.row(x), "2 1");
        check.is("6: twins are one", x.word(0, 4), 6);
        Check.rule(x, "0");
        // by no strike all twins are one, and none falls
        x.days(1);
        check.is("1: falls", x.count(3), 2);
        check.is("6: twins are one", x.word(0, 4), 12);
        // the same but for the first letter, or for the last, are no twins
        for (String two : new String[] {"Ab;Cb", "bA;bC", "bA;b", "Ab;b", "bAd;bCd"}) {
            SilentLetters y = Check.withWords(two);
            Check.rule(y, "1");
            y.days(1);
            check.is("1: falls of " + two, y.count(3), 1);
        }
        SilentLetters eight = Check.withWords(EIGHT);
        Check.rule(eight, "1");
        eight.days(1);
        check.is("1: eight words, all pairs", eight.count(3), 28);
    }

    private static void fallsStopAt9999() {
        SilentLetters x = Check.withWords(EIGHT);
        Check.rule(x, "1");
        for (int i = 0; i < 5; i++) {
            x.days(60);
        }
        x.days(57);
        check.is("1: falls of 357 days", x.count(3), 9996);
        check.asks("20: one day more", x, () -> x.ahead(1), 254, "9999 5");
        // three pairs a day: just the first and the last two words are one by g and h
        for (int word = 1; word <= 4; word++) {
            x.mutes(word, 1);
        }
        Check.rule(x, "i>5");
        x.mutes(5, 1);
        x.days(1);
        check.is("1: three more", x.count(3), 9999);
        check.is("10: the ROW", Check.row(x), "3 1");
        x.days(1);
        check.is("1: no more", x.count(3), 9999);
        check.is("10: the ROW, falls aside", Check.row(x), "3 1");
        check.is("15: undone", x.undo(), 12);
        check.is("15: falls", x.count(3), 9999);
        check.is("15: undone", x.undo(), 11);
        check.is("15: falls", x.count(3), 9996);
    }

    private static void dayIsOneMore() {
        SilentLetters x = new SilentLetters();
        for (int day = 1; day <= 10; day++) {
            x.days(1);
            check.is("1: day", x.count(1), day);
        }
        for (int i = 0; i < 100; i++) {
            x.days(60);
        }
        check.is("1: a day far off", x.count(1), 6010);
        Check.rule(x, "d");
        check.is("1: by seven", x.letter(0, 5), 6010 % 7);
    }

    // ---- 9: sheet

    private static void sheetOfKinds() {
        int[] kinds = {-1, 0, 1, 2, 3, 4, LEAST, GREATEST};
        int[] due = {-1, 6, 6, 6, -3, -1, -1, -1};
        int[] sums = {40, 6, 6, 6, 0, 40, 40, 40};
        for (int i = 0; i < kinds.length; i++) {
            SilentLetters x = new SilentLetters();
            check.is("9: a sheet of kind " + kinds[i], x.sheet(kinds[i], 3, 1, 1), due[i]);
            check.is("9: moods by kind " + kinds[i], x.count(4), sums[i]);
        }
    }

    private static void sheetOfZeroToEight() {
        for (int kind = 0; kind <= 2; kind++) {
            for (int n = 0; n <= 8; n++) {
                SilentLetters x = new SilentLetters();
                check.is("9: the sum of " + n, x.sheet(kind, n, 9, -1), sumDownFromNine(n));
                for (int letter = 0; letter < 8; letter++) {
                    check.is("9: mood of " + letter + " of " + n, x.letter(letter, 0), letter < n ? 9 - letter : 0);
                }
                check.leaves("9: nine", x, () -> x.sheet(0, 9, 1, 1), -1);
            }
        }
    }

    private static int sumDownFromNine(int n) {
        int sum = 0;
        for (int i = 0; i < n; i++) {
            sum += 9 - i;
        }
        return sum;
    }

    private static void sheetBelowZeroEntries() {
        SilentLetters x = new SilentLetters();
        x.days(0);
        for (int kind = 0; kind <= 2; kind++) {
            for (int n : new int[] {-1, -2, LEAST}) {
                int of = kind;
                check.leaves("9: sheet(" + kind + ", " + n + ")", x, () -> x.sheet(of, n, 7, 0), -2);
            }
        }
    }

    private static void sheetMissing() {
        for (int n : new int[] {-1, 0, 1, 8, LEAST}) {
            SilentLetters x = new SilentLetters();
            x.offer(0, 3);
            x.days(0);
            check.is("9: sheet(3, " + n + ")", x.sheet(3, n, 7, 1), -3);
            for (int letter = 0; letter < 8; letter++) {
                check.is("9: all 0", x.letter(letter, 0), 0);
            }
            check.is("9: offers stay", x.count(5), 3);
            check.is("9: the ROW stays", Check.row(x), "0 0");
        }
    }

    private static void sheetRefusesFirst() {
        SilentLetters x = new SilentLetters();
        x.days(0);
        int[][] refused = {{3, 9}, {3, GREATEST}, {0, 9}, {1, 9}, {2, 9}, {0, GREATEST}, {4, -1}, {-1, -1}, {4, 9}, {-1, 9},
            {4, 8}, {-1, 0}, {LEAST, LEAST}};
        for (int[] r : refused) {
            check.leaves("9: sheet(" + r[0] + ", " + r[1] + ")", x, () -> x.sheet(r[0], r[1], 1, 1), -1);
        }
    }

    private static void mood(String what, int kind, int entry, int due) {
        SilentLetters x = new SilentLetters();
        check.is("9: the sum, " + what + " " + entry, x.sheet(kind, 1, entry, 0), due);
        check.is("9: the mood, " + what + " " + entry, x.letter(0, 0), due);
        // as the last of eight, come to by steps
        int f = entry - 7 * 12345;
        x.sheet(kind, 8, f, 12345);
        check.is("9: the last mood, " + what + " " + entry, x.letter(7, 0), due);
    }

    private static void sheetPutsToEnds() {
        int[] entries = {-128, -10, -9, -1, 0, 1, 8, 9, 10, 11, 127};
        int[] due = {0, 0, 0, 0, 0, 1, 8, 9, 9, 9, 9};
        for (int i = 0; i < entries.length; i++) {
            mood("bytes", 0, entries[i], due[i]);
            mood("shorts", 1, entries[i], due[i]);
            mood("ints", 2, entries[i], due[i]);
        }
    }

    private static void sheetOfBytes() {
        int[] entries = {127, 128, 129, 255, 256, 257, 265, 266, 383, 384, -128, -129, -247, -248, -255, -256, 65536 + 3, GREATEST,
            LEAST, LEAST + 4};
        int[] due = {9, 0, 0, 0, 0, 1, 9, 9, 9, 0, 0, 9, 9, 8, 1, 0, 3, 0, 0, 4};
        for (int i = 0; i < entries.length; i++) {
            mood("bytes", 0, entries[i], due[i]);
        }
    }

    private static void sheetOfShorts() {
        int[] entries = {128, 255, 256, 32767, 32768, 65535, 65536, 65537, 65545, -32768, -32769, -65527, -65528, GREATEST, LEAST,
            LEAST + 4};
        int[] due = {9, 9, 9, 9, 0, 0, 0, 1, 9, 0, 9, 9, 8, 0, 0, 4};
        for (int i = 0; i < entries.length; i++) {
            mood("shorts", 1, entries[i], due[i]);
        }
    }

    private static void sheetOfInts() {
        int[] entries = {128, 255, 256, 32768, 65535, 65536, GREATEST, LEAST, LEAST + 4, -65528};
        int[] due = {9, 9, 9, 9, 9, 9, 9, 0, 0, 0};
        for (int i = 0; i < entries.length; i++) {
            mood("ints", 2, entries[i], due[i]);
        }
        SilentLetters x = new SilentLetters();
        // the greatest and one step more is the least
        check.is("9: ints that go around", x.sheet(2, 3, GREATEST, 1), 9);
        check.is("9: ints that go around, back", x.sheet(2, 3, LEAST, -1), 18);
        check.is("9: ints that go around by far", x.sheet(2, 4, 3, 1 << 30), 3 + 9);
    }

    private static void sheetIsNoStepOfUndo() {
        SilentLetters x = new SilentLetters();
        x.sheet(2, 8, 9, 0);
        check.leaves("15: a sheet alone", x, x::undo, -1);
        x.offer(0, 1);
        x.sheet(3, 0, 0, 0);
        check.is("15: the offer behind it", x.undo(), 0);
        check.is("15: moods as ahead of the offer", x.count(4), 72);
    }

    // ---- 10 to 13: days, offer, stirs, mutes

    private static void daysZeroToSixty() {
        SilentLetters x = Check.withWords(FOUR);
        Check.rule(x, "1");
        check.tells("10: 1", x, x.days(1), 129, "2 1");
        check.tells("10: 60", x, x.days(60), 129, "120 60");
        check.is("10: day", x.count(1), 61);
        check.tells("10: 59", x, x.days(59), 129, "118 59");
        check.is("10: day", x.count(1), 120);
        Check.rule(x, "d=6");
        // 120 is 1 by 7: five days without a strike, then the sixth
        check.tells("10: 5", x, x.days(5), 0, "0 0");
        check.tells("10: 1", x, x.days(1), 129, "2 1");
        check.tells("10: 7, the strike on the last", x, x.days(7), 129, "2 1");
        check.tells("10: 14", x, x.days(14), 129, "4 2");
        check.tells("10: 8, none on the last", x, x.days(8), 0, "2 1");
    }

    private static void daysRefused() {
        SilentLetters x = Check.withWords(FOUR);
        x.days(1);
        for (int n : new int[] {-1, 61, -60, LEAST, GREATEST}) {
            check.leaves("10: days(" + n + ")", x, () -> x.days(n), -1);
        }
    }

    private static void daysOfNone() {
        SilentLetters x = Check.withWords(FOUR);
        x.days(1);
        check.tells("10: days(0)", x, x.days(0), 129, "0 0");
        check.is("10: day", x.count(1), 1);
        check.is("10: falls", x.count(3), 2);
        check.is("10: moods", x.count(4), 36);
        check.is("15: it can be undone", x.count(9), 2);
    }

    private static void daysTellFallsAside() {
        SilentLetters x = Check.withWords(EIGHT);
        Check.rule(x, "1");
        for (int i = 1; i <= 7; i++) {
            check.tells("10: 60 days", x, x.days(60), 254, "1680 60");
            check.is("1: falls", x.count(3), Math.min(9999, 1680 * i));
        }
    }

    private static void offersZeroToNine() {
        SilentLetters x = new SilentLetters();
        for (int letter = 0; letter <= 7; letter += 7) {
            int before = 0;
            for (int v : new int[] {0, 1, 9, 8, 0, 9}) {
                check.is("11: the offer before", x.offer(letter, v), before);
                check.is("8: the offer", x.letter(letter, 1), v);
                before = v;
            }
        }
        check.is("44: offers together", x.count(5), 18);
        check.is("44: what can be undone", x.count(9), 12);
    }

    private static void offersRefused() {
        SilentLetters x = new SilentLetters();
        x.offer(0, 4);
        x.days(0);
        int[][] refused = {{-1, 0}, {8, 0}, {0, -1}, {0, 10}, {7, -1}, {7, 10}, {-1, -1}, {8, 10}, {LEAST, 5}, {GREATEST, 5},
            {3, LEAST}, {3, GREATEST}};
        for (int[] r : refused) {
            check.leaves("11: offer(" + r[0] + ", " + r[1] + ")", x, () -> x.offer(r[0], r[1]), -1);
        }
    }

    private static void stirsUpToTheEnds() {
        for (int mood = 0; mood <= 9; mood++) {
            for (int n = -9; n <= 9; n++) {
                if (n != 0) {
                    stir(7 * (mood % 2), mood, n);
                }
            }
        }
    }

    private static void stir(int letter, int mood, int n) {
        SilentLetters x = new SilentLetters();
        x.sheet(2, 8, mood, 0);
        x.days(0);
        String what = "12: stirs(" + letter + ", " + n + ") of " + mood;
        if (mood + n < 0) {
            check.leaves(what, x, () -> x.stirs(letter, n), -2);
        } else if (mood + n > 9) {
            check.leaves(what, x, () -> x.stirs(letter, n), -3);
        } else {
            check.is(what, x.stirs(letter, n), mood + n);
            check.is("8: the mood", x.letter(letter, 0), mood + n);
            check.is("44: the others stay", x.count(4), 8 * mood + n);
            check.is("15: undone", x.undo(), 1);
            check.is("8: the mood as it was", x.letter(letter, 0), mood);
        }
    }

    private static void stirsRefused() {
        SilentLetters x = new SilentLetters();
        x.sheet(2, 4, 0, 3);
        x.days(0);
        int[][] refused = {{-1, 1}, {8, 1}, {-1, 9}, {8, -9}, {0, 0}, {7, 0}, {0, 10}, {3, 10}, {0, -10}, {3, -10}, {8, 0},
            {LEAST, 1}, {GREATEST, 1}, {0, LEAST}, {3, GREATEST}};
        for (int[] r : refused) {
            check.leaves("12: stirs(" + r[0] + ", " + r[1] + ")", x, () -> x.stirs(r[0], r[1]), -1);
        }
    }

    private static void mutesTheOnlySaidOne() {
        SilentLetters x = Check.withWords("ABCDEFGh;a;bb");
        x.days(0);
        check.leaves("13: the last alone is said", x, () -> x.mutes(0, 7), -2);
        check.leaves("13: there is but one", x, () -> x.mutes(1, 0), -2);
        check.is("13: one of two like ones", x.mutes(2, 0), 1);
        check.leaves("13: the other of two like ones", x, () -> x.mutes(2, 1), -2);
        check.is("13: said again", x.mutes(2, 0), 2);
        check.is("13: the other", x.mutes(2, 1), 1);
        for (int i = 0; i < 7; i++) {
            check.is("13: said again", x.mutes(0, i), i + 2);
            check.is("7: it is said", x.at(0, i), i);
        }
        check.is("13: the last is not alone now", x.mutes(0, 7), 7);
        check.is("7: it is unsaid", x.at(0, 7), 15);
    }

    private static void mutesNoneSuch() {
        SilentLetters x = new SilentLetters();
        check.leaves("13: no words", x, () -> x.mutes(0, 0), -1);
        Check.words(x, "aBc;aBcDeFgH");
        x.days(0);
        int[][] none = {{-1, 0}, {2, 0}, {0, -1}, {0, 3}, {1, 8}, {1, -1}, {7, 0}, {8, 0}, {LEAST, 0}, {GREATEST, 0}, {0, LEAST},
            {0, GREATEST}, {0, 32}, {1, 32}};
        for (int[] r : none) {
            check.leaves("13: mutes(" + r[0] + ", " + r[1] + ")", x, () -> x.mutes(r[0], r[1]), -1);
        }
        check.is("13: the last of the first", x.mutes(0, 2), 1);
        check.is("13: the last of the last", x.mutes(1, 7), 5);
    }

    // ---- 14: year

    private static void emptyYear() {
        SilentLetters x = Check.withWords(FOUR);
        check.tells("14: empty", x, x.year(), 0, "0 0");
        x.days(1);
        check.tells("14: empty, a strike is on", x, x.year(), 0, "0 129");
        check.is("14: nothing is done", x.count(1), 1);
        check.is("15: it is none to be undone", x.count(9), 1);
    }

    private static void fault(String text, int due) {
        SilentLetters x = Check.withWords(FOUR);
        x.days(1);
        Check.text(x, text);
        check.emptiesText("14: year " + text, x, x::year, due);
    }

    private static void everySignBeginsAnAct() {
        for (int c = 0; c < 256; c++) {
            boolean act = "norqx".indexOf(c) >= 0;
            fault(String.valueOf((char) c), act ? -2 : -1);
            fault("n0" + (char) c, act ? -4 : -3);
        }
    }

    private static void yearDigits() {
        for (int c = 0; c < 256; c++) {
            String sign = String.valueOf((char) c);
            boolean digit = c >= '0' && c <= '9';
            boolean fromOne = c >= '1' && c <= '9';
            if (!digit) {
                fault("n" + sign, -2);
                fault("oa" + sign, -3);
                fault("x0" + sign, -3);
                fault("x" + sign + "0", -2);
            }
            if (!fromOne) {
                fault("ra" + sign, -3);
                fault("qa" + sign, -3);
            }
        }
    }

    private static void yearLetters() {
        for (int c = 0; c < 256; c++) {
            if (c < 'a' || c > 'h') {
                fault("o" + (char) c + "1", -2);
                fault("r" + (char) c + "1", -2);
                fault("q" + (char) c + "1", -2);
            }
        }
        SilentLetters x = new SilentLetters();
        check.is("14: all letters", Check.year(x, "oa1ob2oc3od4oe5of6og7oh8ra1rh2qb1qh3"), 12);
        for (int letter = 0; letter < 8; letter++) {
            check.is("14: the offer of " + letter, x.letter(letter, 1), letter + 1);
        }
        check.is("14: the mood of a", x.letter(0, 0), 6);
        check.is("14: the mood of b", x.letter(1, 0), 4);
        check.is("14: the mood of h", x.letter(7, 0), 4);
    }

    private static void yearEndsTooEarly() {
        String[] texts = {"n", "o", "oa", "r", "ra", "q", "qh", "x", "x0", "n1n", "n1o", "n1oa", "oa1x", "oa1x9", "x00n"};
        for (String text : texts) {
            fault(text, -1 - text.length());
        }
    }

    private static void sixtySignsOfYear() {
        SilentLetters x = Check.withWords(FOUR);
        check.tells("14: sixty signs of days", x, Check.year(x, "n1".repeat(30)), 30, "0 129");
        check.is("14: day", x.count(1), 30);
        check.is("14: sixty signs of offers", Check.year(x, "oa1".repeat(19) + "oh7"), 20);
        check.is("14: the last", x.letter(7, 1), 7);
        check.is("14: 59 signs", Check.year(x, "oa1".repeat(19) + "n1"), 20);
        check.is("14: day", x.count(1), 31);
        check.is("14: sixty signs, nine days each", Check.year(x, "n9".repeat(30)), 30);
        check.is("14: day", x.count(1), 301);
        // sixty signs that end too early, or whose last can't stand
        fault("oa1".repeat(19) + "n1" + "o", -61);
        fault("n1".repeat(28) + "oa1" + "n", -61);
        fault("oa1".repeat(19) + "n1" + "z", -60);
        fault("n1".repeat(29) + "na", -60);
        fault("oa1".repeat(19) + "oa:", -60);
    }

    private static void moreThanSixtySignsOfYear() {
        // the first sixty could end
        fault("n1".repeat(30) + "n", -61);
        fault("n1".repeat(30) + "z", -61);
        fault("n1".repeat(31), -61);
        fault("oa1".repeat(21), -61);
        // or go on
        fault("oa1".repeat(19) + "n1" + "oa1", -61);
        fault("oa1".repeat(19) + "n1" + "oz1", -61);
        fault("n1".repeat(28) + "oa1" + "n1", -61);
        fault("n1".repeat(29) + "oa" + "z", -61);
        // or neither
        fault("oa1".repeat(19) + "n1" + "z1", -60);
        fault("n1".repeat(29) + "nan", -60);
        fault("n1".repeat(40), -61);
        fault("z".repeat(80), -1);
    }

    private static void nothingIsDoneOfAFaultyYear() {
        fault("n1z", -3);
        fault("n9oa9rb1qc1x00n", -16);
        fault("x00x0a", -6);
        fault("ra1qa0", -6);
    }

    private static void yearTillOneIsRefused() {
        String[] refused = {"ra9", "qa9", "x03", "x40", "x90", "x09", "x99", "x08", "x80"};
        for (String act : refused) {
            SilentLetters x = Check.withWords(FOUR);
            check.tells("14: the first, " + act, x, Check.year(x, act), 0, "1 0");
            check.is("14: the text then", x.count(11), 0);
            check.is("15: none to be undone", x.count(9), 0);
            check.tells("14: the second, " + act, x, Check.year(x, "n1" + act + "n5oh9"), 1, "1 129");
            check.is("14: one day alone", x.count(1), 1);
            check.is("14: no offer", x.count(5), 0);
            check.is("15: one to be undone", x.count(9), 1);
            check.tells("14: the last, " + act, x, Check.year(x, "oa1n1" + act), 2, "1 0");
        }
        SilentLetters x = Check.withWords("Ab");
        check.tells("14: the only said one", x, Check.year(x, "n1x01n1"), 1, "1 1");
        check.is("14: one day alone", x.count(1), 1);
    }

    private static void yearActsAtTheirEnds() {
        SilentLetters x = Check.withWords(FOUR);
        check.tells("14: no days are done, too", x, Check.year(x, "n0"), 1, "0 0");
        check.is("14: day", x.count(1), 0);
        check.is("15: it can be undone", x.count(9), 1);
        check.is("14: nine days", Check.year(x, "n9"), 1);
        check.is("14: day", x.count(1), 9);
        SilentLetters y = Check.withWords(FOUR);
        check.tells("14: offers of 9 and 0", y, Check.year(y, "oa9oa0oh9"), 3, "0 0");
        check.is("14: offers", y.count(5), 9);
        check.tells("14: up to 9", y, Check.year(y, "ra4qa9ra9"), 3, "0 0");
        check.is("14: the mood of a", y.letter(0, 0), 9);
        check.tells("14: above 9", y, Check.year(y, "ra1"), 0, "1 0");
        check.tells("14: down to 0", y, Check.year(y, "qb5"), 1, "0 0");
        check.tells("14: below 0", y, Check.year(y, "qb1"), 0, "1 0");
        check.tells("14: the first sign and the last", y, Check.year(y, "x00x31"), 2, "0 0");
        check.is("14: h is said", y.at(0, 0), 7);
        check.is("14: b is unsaid", y.at(3, 1), 9);
        SilentLetters z = Check.withWords(EIGHT + "BCDEFG");
        check.tells("14: the last word's last sign", z, Check.year(z, "x77"), 1, "0 0");
        check.is("14: g is said", z.at(7, 7), 6);
    }

    // ---- 15: undo

    private static void undoNothing() {
        SilentLetters x = Check.withWords(FOUR);
        x.looks(0, 0);
        check.leaves("15: nothing", x, x::undo, -1);
        x.days(1);
        check.is("15: the one", x.undo(), 0);
        check.leaves("15: nothing more", x, x::undo, -1);
    }

    private static void undoFifteen() {
        for (int done = 14; done <= 32; done++) {
            SilentLetters x = new SilentLetters();
            for (int i = 1; i <= done; i++) {
                x.days(1);
                check.is("44: what can be undone of " + i, x.count(9), Math.min(i, 15));
            }
            int kept = Math.min(done, 15);
            for (int left = kept - 1; left >= 0; left--) {
                check.is("15: left", x.undo(), left);
                check.is("15: day", x.count(1), done - kept + left);
            }
            check.leaves("15: none is left", x, x::undo, -1);
            x.days(2);
            check.is("15: one behind all that", x.undo(), 0);
            check.is("15: day", x.count(1), done - kept);
        }
    }

    private static void undoRefusedOnesAreNot() {
        SilentLetters x = Check.withWords("aB");
        x.days(61);
        x.offer(0, 10);
        x.stirs(0, 5);
        x.stirs(0, -6);
        x.stirs(0, 0);
        x.mutes(0, 0);
        x.mutes(0, 2);
        Check.year(x, "z");
        x.sheet(2, 8, 5, 0);
        x.keep(0);
        check.is("15: none was done", x.count(9), 0);
        x.days(0);
        x.offer(0, 0);
        x.stirs(0, 4);
        x.mutes(0, 1);
        Check.year(x, "n0");
        check.is("15: five were done", x.count(9), 5);
    }

    private static void undoYearAsOne() {
        SilentLetters x = Check.withWords(FOUR);
        x.offer(1, 1);
        Check.year(x, "n9oa3ra1x00");
        check.is("15: as one", x.count(9), 2);
        check.is("15: left", x.undo(), 1);
        int[] due = {4, 0, 0, 0, 40, 1, 2, 8};
        for (int what = 0; what < due.length; what++) {
            check.is("15: count(" + what + ") as ahead of the year", x.count(what), due[what]);
        }
    }

    private static void undoYearWithoutActs() {
        SilentLetters x = Check.withWords(FOUR);
        Check.year(x, "");
        Check.year(x, "x99");
        Check.year(x, "x99n1");
        check.is("15: no act was done", x.count(9), 0);
        Check.year(x, "n1x99");
        check.is("15: one act was done", x.count(9), 1);
        check.is("15: it is undone", x.undo(), 0);
        check.is("15: day", x.count(1), 0);
    }

    private static void undoBringsBack() {
        SilentLetters x = Check.withWords(FOUR);
        x.days(1);
        x.offer(7, 4);
        x.mutes(1, 0);
        String before = Check.seen(x).substring(Check.seen(x).indexOf('/'));
        Check.year(x, "n5oh1oa9rb1x00x31");
        x.undo();
        check.is("15: all is as it was", Check.seen(x).substring(Check.seen(x).indexOf('/')), before);
        int[] due = {4, 1, 129, 2, 36, 4, 3, 7, 0, 3};
        for (int what = 0; what < due.length; what++) {
            check.is("15: count(" + what + ") as it was", x.count(what), due[what]);
        }
    }

    private static void undoEachKindBringsBack() {
        SilentLetters x = Check.withWords(FOUR);
        for (int kind = 0; kind < 5; kind++) {
            // a sheet ahead of each: no state that was seen before is as this one
            x.sheet(2, 8, kind, 1);
            Check.year(x, "n1");
            x.sheet(2, 8, kind, 0);
            String before = Check.seen(x);
            int left = x.count(9);
            switch (kind) {
                case 0 -> x.days(7);
                case 1 -> x.offer(0, 7);
                case 2 -> x.stirs(0, 3);
                case 3 -> x.mutes(1, 0);
                default -> Check.year(x, "n7oa5ra1x10");
            }
            check.is("15: kind " + kind + " is undone", x.undo(), left);
            check.is("15: all is as ahead of kind " + kind, Check.seen(x), before);
        }
    }

    private static void undoLeavesTheRest() {
        SilentLetters x = Check.withWords(FOUR);
        x.offer(0, 1);
        Check.rule(x, "5");
        x.noticed(0, 1, 1);
        x.looks(0, 0);
        Check.text(x, "abc");
        x.offer(0, 2);
        x.keep(0);
        check.is("15: undone", x.undo(), 1);
        check.is("15: the rule stays", x.letter(0, 5), 5);
        check.is("15: what was noticed stays", x.count(8), 1);
        check.is("15: the ROW stays", Check.row(x), "7 0 1");
        check.is("15: the text stays", x.count(11), 3);
        check.is("15: what is kept stays", x.again(0), true);
        check.is("43: as it was kept", x.letter(0, 1), 2);
    }

    private static void wordsForgetWhatCanBeUndone() {
        SilentLetters x = Check.withWords("Ab");
        x.days(1);
        x.offer(0, 1);
        check.leaves("15: an empty words() forgets nothing", x, x::words, 0);
        Check.text(x, "A");
        check.emptiesText("15: refused words() forget nothing", x, x::words, -2);
        check.is("15: one is undone", x.undo(), 1);
        check.is("4: words", Check.words(x, "b"), 1);
        check.is("15: none is left", x.count(9), 0);
        check.leaves("15: none is left", x, x::undo, -1);
        check.is("15: the day stays", x.count(1), 1);
    }

    private static void againForgetsWhatCanBeUndone() {
        SilentLetters x = Check.withWords("Ab");
        x.days(1);
        x.offer(0, 1);
        check.leaves("15: a refused again() forgets nothing", x, () -> x.again(0) ? 1 : 0, 0);
        check.leaves("15: a refused again() forgets nothing", x, () -> x.again(3) ? 1 : 0, 0);
        check.leaves("15: keep() forgets nothing", x, () -> x.keep(0) ? 1 : 0, 1);
        check.is("15: one is undone", x.undo(), 1);
        check.is("43: again", x.again(0), true);
        check.is("15: none is left", x.count(9), 0);
        check.leaves("15: none is left", x, x::undo, -1);
        check.is("43: as it was kept", x.count(5), 1);
    }
}
