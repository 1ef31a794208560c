/** Edges that the promises 25 to 33 name: who must stay, and which strike it was. */
public final class EdgesOfStrikesTest {
    private static final int LEAST = Integer.MIN_VALUE;
    private static final int GREATEST = Integer.MAX_VALUE;
    // H and A are unsaid once each; by h words 0 and 1 are one, by a words 2 and 3.
    private static final String FOUR = "Hab;ab;cAb;cb";
    // By a strike of all, these eight are one: 28 pairs.
    private static final String EIGHT = "a;aB;aC;aD;aE;aF;aG;aH";
    // Every letter is unsaid once, and no strike makes the two one.
    private static final String UNSAID = "aBCDEFGH;bA";
    // By each letter alone two of these are one: by a or b the first two, and so on.
    private static final String PAIRS = "hAB;hBA;hCD;hDC;hEF;hFE;aGH;aHG";
    // Only if all eight strike are these one.
    private static final String ALL_OR_NOT = "aABCDEFG;aH";
    // Two words of four of which one is none such, or like ones.
    private static final int[][] NO_PAIRS = {
        {-1, 0}, {0, -1}, {4, 0}, {0, 4}, {4, 5}, {-1, -2}, {0, 0}, {3, 3}, {4, 4}, {-1, -1},
        {LEAST, 0}, {0, LEAST}, {GREATEST, 0}, {0, GREATEST}
    };

    private static final Check check = new Check();

    public static void main(String[] args) {
        mustOfNoneAndOfOne();
        mustOfSuchWords();
        mustRefused();
        mustOfNoneToEight();
        mustTheLeast();
        mustButTwins();
        mostOfNone();
        mostOfAll();
        mostTheLeast();
        mostButTwins();
        joinsOfNoneToEight();
        joinsTheFewestAndLeast();
        joinsByNone();
        joinsRefused();
        safeOfNoneToEight();
        safeOfTwins();
        safeTheLeast();
        safeAtOnce();
        partsOfNoneToMany();
        partsByNone();
        partsWithASaidOne();
        partsOfAllPlaces();
        partsRefused();

        noticedUpToTwelve();
        noticedRefused();
        noticedIsNotForgotten();
        forgetAll();
        fitsWithoutNotices();
        fitsOneAndAll();
        fitsNothing();
        fitsTheFewest();
        fitsOfUnsaidAlone();
        nextOfFewerThanTwo();
        nextIfNoneFits();
        nextOfEqualOnes();
        nextOfTheLast();
        nextAtTheEnds();
        nextAtOnce();
        check.end();
    }

    // ---- 25, 26: must, most

    private static void mustOfNoneAndOfOne() {
        SilentLetters none = new SilentLetters();
        none.days(0);
        check.leaves("25: no words, one asked for", none, () -> none.must(1), -1);
        check.asks("25: no words, none asked for", none, () -> none.must(0), 0, "0");
        SilentLetters x = Check.withWords(PAIRS);
        check.asks("25: none asked for", x, () -> x.must(0), 0, "0");
        for (int word = 0; word < 8; word++) {
            int bits = 1 << word;
            check.asks("25: one asked for", x, () -> x.must(bits), 0, "0");
        }
    }

    private static void mustOfSuchWords() {
        for (int words = 1; words <= 8; words++) {
            SilentLetters x = Check.withWords("a;a;a;a;a;a;a;a".substring(0, 2 * words - 1));
            int all = (1 << words) - 1;
            check.asks("25: all of " + words, x, () -> x.must(all), 0, "0");
            check.leaves("25: the next to all of " + words, x, () -> x.must(all + 1), -1);
        }
    }

    private static void mustRefused() {
        SilentLetters x = Check.withWords(FOUR);
        x.looks(0, 0);
        for (int bits : new int[] {-1, 16, 17, 31, 32, 256, LEAST, GREATEST, LEAST + 3}) {
            check.leaves("25: must(" + bits + ")", x, () -> x.must(bits), -1);
        }
        SilentLetters eight = Check.withWords(EIGHT);
        for (int bits : new int[] {-1, 256, 257, LEAST, GREATEST}) {
            check.leaves("25: must(" + bits + ") of eight", eight, () -> eight.must(bits), -1);
        }
    }

    private static void mustOfNoneToEight() {
        SilentLetters x = Check.withWords(PAIRS);
        check.asks("25: eight letters", x, () -> x.must(255), 8, "255");
        check.asks("25: six", x, () -> x.must(63), 6, "63");
        check.asks("25: the last two", x, () -> x.must(192), 2, "192");
        check.asks("25: none, for no two of these are one", x, () -> x.must(65), 0, "0");
        check.asks("25: h and h, if all strike", x, () -> x.must(17), 1, "1");
        SilentLetters eight = Check.withWords(EIGHT);
        check.asks("25: seven letters", eight, () -> eight.must(255), 7, "254");
        check.asks("25: without the last", eight, () -> eight.must(127), 6, "126");
        check.asks("25: without the first", eight, () -> eight.must(254), 6, "126");
    }

    private static void mustTheLeast() {
        // b or c, or d, must stay
        SilentLetters x = Check.withWords("aBCD;a");
        check.asks("25: the least", x, () -> x.must(3), 1, "2");
        // h alone, or both b and c: the fewest
        SilentLetters y = Check.withWords("aBH;aCH;a");
        check.asks("25: the fewest", y, () -> y.must(5), 1, "2");
        check.asks("25: b or c", y, () -> y.must(3), 1, "2");
        check.asks("25: two", y, () -> y.must(7), 2, "6");
    }

    private static void mustButTwins() {
        SilentLetters x = Check.withWords("aB;Ab;aB;a");
        check.asks("25: twins need none", x, () -> x.must(5), 0, "0");
        // Ab and aB are b and a, if both strike
        check.asks("25: twins that are apart", x, () -> x.must(7), 0, "0");
        check.asks("25: with another", x, () -> x.must(15), 1, "2");
    }

    private static void mostOfNone() {
        SilentLetters none = new SilentLetters();
        none.days(0);
        check.asks("26: no words", none, none::most, 0, "0");
        SilentLetters said = Check.withWords("ab;a");
        check.asks("26: none is unsaid", said, said::most, 0, "0");
        SilentLetters x = Check.withWords(PAIRS);
        check.asks("26: none can", x, x::most, 0, "0");
    }

    private static void mostOfAll() {
        SilentLetters x = Check.withWords(UNSAID);
        check.asks("26: all eight", x, x::most, 8, "255");
        SilentLetters one = Check.withWords("aBCDEFGH");
        check.asks("26: of one word", one, one::most, 7, "254");
        SilentLetters y = Check.withWords(ALL_OR_NOT);
        check.asks("26: all but one, the least", y, y::most, 7, "127");
    }

    private static void mostTheLeast() {
        SilentLetters x = Check.withWords("aBCD;a;Gd");
        check.asks("26: one of three must stay", x, x::most, 3, "70");
        SilentLetters y = Check.withWords("aBC;a;Gd");
        check.asks("26: one of two must stay", y, y::most, 2, "66");
    }

    private static void mostButTwins() {
        SilentLetters x = Check.withWords("aB;aB");
        check.asks("26: twins", x, x::most, 1, "2");
        SilentLetters y = Check.withWords("aB;aB;a");
        check.asks("26: and another", y, y::most, 0, "0");
    }

    // ---- 27 to 29: joins, safe, parts

    private static void joinsOfNoneToEight() {
        SilentLetters x = Check.withWords("a;aB;aBC;aBCD;aBCDE;aBCDEF;aBCDEFG;aBCDEFGH");
        for (int word = 1; word < 8; word++) {
            int other = word;
            check.asks("27: so many as there are more", x, () -> x.joins(0, other), other, String.valueOf((2 << other) - 2));
            check.asks("27: the other way", x, () -> x.joins(other, 0), other, String.valueOf((2 << other) - 2));
        }
        SilentLetters all = Check.withWords(ALL_OR_NOT);
        check.asks("27: eight", all, () -> all.joins(0, 1), 8, "255");
        SilentLetters twins = Check.withWords("aB;Ab;ab");
        check.asks("27: twins", twins, () -> twins.joins(0, 1), 0, "0");
        check.asks("27: twins", twins, () -> twins.joins(2, 0), 0, "0");
    }

    private static void joinsTheFewestAndLeast() {
        SilentLetters x = Check.withWords("aBC;aCB;dABH;dHAB;hAC;hCA");
        check.asks("27: b or c, the least", x, () -> x.joins(0, 1), 1, "2");
        check.asks("27: h, or a and b: the fewest", x, () -> x.joins(2, 3), 1, "128");
        check.asks("27: a or c, the least", x, () -> x.joins(4, 5), 1, "1");
    }

    private static void joinsByNone() {
        SilentLetters x = Check.withWords("ab;aB;Ab;ba");
        x.looks(0, 0);
        check.leaves("27: ab and ba", x, () -> x.joins(0, 3), -2);
        check.leaves("27: aB and ba", x, () -> x.joins(3, 1), -2);
        SilentLetters y = Check.withWords(UNSAID);
        y.days(0);
        check.leaves("27: by none of all sets", y, () -> y.joins(0, 1), -2);
    }

    private static void joinsRefused() {
        SilentLetters x = Check.withWords(FOUR);
        x.looks(0, 0);
        for (int[] r : NO_PAIRS) {
            check.leaves("27: joins(" + r[0] + ", " + r[1] + ")", x, () -> x.joins(r[0], r[1]), -1);
        }
        check.asks("27: the last two", x, () -> x.joins(2, 3), 1, "1");
        SilentLetters none = new SilentLetters();
        check.leaves("27: no words", none, () -> none.joins(0, 1), -1);
    }

    private static void safeOfNoneToEight() {
        SilentLetters none = new SilentLetters();
        none.days(0);
        check.asks("28: no words", none, none::safe, 0, "0");
        for (int words = 1; words <= 8; words++) {
            SilentLetters x = Check.withWords("a;b;c;d;e;f;g;h".substring(0, 2 * words - 1));
            check.asks("28: all of " + words, x, x::safe, words, String.valueOf((1 << words) - 1));
        }
        SilentLetters x = Check.withWords(EIGHT);
        check.asks("28: one of eight", x, x::safe, 1, "1");
        SilentLetters y = Check.withWords(PAIRS);
        check.asks("28: one of each two", y, y::safe, 2, "65");
        SilentLetters z = Check.withWords(ALL_OR_NOT);
        check.asks("28: if all strike, these are one", z, z::safe, 1, "1");
    }

    private static void safeOfTwins() {
        SilentLetters x = Check.withWords("ab;ab");
        check.asks("28: like ones", x, x::safe, 1, "1");
        SilentLetters y = Check.withWords("abcdefgH;ABCDEFGh");
        check.asks("28: by no strike alone", y, y::safe, 1, "1");
    }

    private static void safeAtOnce() {
        SilentLetters x = Check.withWords("Hab;ab");
        check.tells("28: h is unsaid", x, x.safe(), 1, "1");
        x.mutes(0, 0);
        check.tells("28: h is said", x, x.safe(), 2, "3");
        check.tells("33: h is said", x, x.next(), 1, "0 1");
        x.mutes(0, 0);
        check.tells("28: h is unsaid", x, x.safe(), 1, "1");
    }

    private static void safeTheLeast() {
        // 0 and 1 meet, 2 and 3 meet: 0 and 2 are the least
        SilentLetters x = Check.withWords(FOUR);
        check.asks("28: the least", x, x::safe, 2, "5");
        // 0 meets 1, 2 and 3, which never meet
        SilentLetters y = Check.withWords("aBCDH;ab;ac;ad;h");
        check.asks("28: the most, not the least", y, y::safe, 4, "30");
        SilentLetters z = Check.withWords("g;gA;gAA;h");
        check.asks("28: two of four", z, z::safe, 2, "9");
    }

    private static void partsOfNoneToMany() {
        SilentLetters x = Check.withWords("Hab;ab;abc;Cb;CbBB");
        check.asks("29: it is so", x, () -> x.parts(1, 2), 0, "0");
        check.asks("29: it is so", x, () -> x.parts(2, 0), 0, "0");
        check.asks("29: h is said", x, () -> x.parts(0, 1), 1, "1");
        check.asks("29: two places", x, () -> x.parts(3, 4), 2, "3");
        // the eighth sign alone is unsaid
        SilentLetters y = Check.withWords("abcdefgH;abcdefg");
        check.asks("29: the last place", y, () -> y.parts(0, 1), 1, "128");
        // one of seven is said: the least
        SilentLetters z = Check.withWords("aBCDEFGH;a");
        check.asks("29: the least", z, () -> z.parts(0, 1), 1, "2");
    }

    private static void partsByNone() {
        SilentLetters x = Check.withWords("Hab;ab;HaCb;HaCb;a;aB");
        x.looks(0, 0);
        check.leaves("29: ab has none to say", x, () -> x.parts(1, 0), -2);
        check.leaves("29: twins", x, () -> x.parts(2, 3), -2);
        check.leaves("29: a has none to mute", x, () -> x.parts(4, 5), -2);
        SilentLetters y = Check.withWords("abcdefgh;ABCDEFGh");
        y.days(0);
        check.leaves("29: twins of eight", y, () -> y.parts(0, 1), -2);
        check.leaves("29: twins of eight", y, () -> y.parts(1, 0), -2);
    }

    private static void partsWithASaidOne() {
        // to mute b alone would do (by b there would be nothing), but it is the only said one
        SilentLetters x = Check.withWords("b;bA;bB");
        x.looks(0, 0);
        check.leaves("29: the only said one stays", x, () -> x.parts(0, 1), -2);
        check.asks("29: the other can say its a", x, () -> x.parts(1, 0), 1, "2");
        check.asks("29: as it can its second b", x, () -> x.parts(2, 0), 1, "2");
        check.is("13: as mutes() would", x.mutes(0, 0), -2);
    }

    private static void partsOfAllPlaces() {
        // Cb and cb are one with the other by b, CB would say nothing, cB is never one with it
        SilentLetters x = Check.withWords("Cb;CbBB;BcA;CBc;bCAB;BbCa");
        check.asks("29: both, the said and the unsaid one", x, () -> x.parts(0, 1), 2, "3");
        check.asks("29: the third alone", x, () -> x.parts(2, 3), 1, "4");
        check.asks("29: the fourth alone", x, () -> x.parts(4, 5), 1, "8");
    }

    private static void partsRefused() {
        SilentLetters x = Check.withWords(FOUR);
        x.looks(0, 0);
        for (int[] r : NO_PAIRS) {
            check.leaves("29: parts(" + r[0] + ", " + r[1] + ")", x, () -> x.parts(r[0], r[1]), -1);
        }
        check.asks("29: the last two", x, () -> x.parts(2, 3), 1, "2");
        SilentLetters none = new SilentLetters();
        check.leaves("29: no words", none, () -> none.parts(0, 1), -1);
    }

    // ---- 30, 31: noticed, forget

    private static void noticedUpToTwelve() {
        SilentLetters x = Check.withWords(FOUR);
        x.looks(0, 0);
        for (int n = 1; n <= 12; n++) {
            check.is("30: how many", x.noticed(n % 2, 3 - n % 2, 0), n);
            check.is("44: how many", x.count(8), n);
        }
        check.leaves("30: a thirteenth", x, () -> x.noticed(0, 1, 1), -1);
        check.is("30: the ROW stays", Check.row(x), "7 0 1");
        check.asks("32: the thirteenth is not there", x, x::fits, 4, "0 0");
        check.is("31: forgotten", x.forget(), 12);
        check.is("30: there is room again", x.noticed(0, 1, 1), 1);
        check.asks("32: the first is there", x, x::fits, 2, "128 128");
    }

    private static void noticedRefused() {
        SilentLetters x = Check.withWords(FOUR);
        x.looks(0, 0);
        for (int[] r : NO_PAIRS) {
            check.leaves("30: noticed(" + r[0] + ", " + r[1] + ", 0)", x, () -> x.noticed(r[0], r[1], 0), -1);
            check.leaves("30: noticed(" + r[0] + ", " + r[1] + ", 1)", x, () -> x.noticed(r[0], r[1], 1), -1);
        }
        for (int is : new int[] {-1, 2, LEAST, GREATEST}) {
            check.leaves("30: noticed(0, 1, " + is + ")", x, () -> x.noticed(0, 1, is), -1);
        }
        check.is("30: the last and the first", x.noticed(3, 0, 1), 1);
        SilentLetters none = new SilentLetters();
        check.leaves("30: no words", none, () -> none.noticed(0, 1, 0), -1);
    }

    private static void noticedIsNotForgotten() {
        SilentLetters x = Check.withWords(FOUR);
        x.noticed(0, 1, 1);
        x.keep(0);
        x.days(1);
        x.undo();
        x.again(0);
        Check.words(x, "d");
        Check.rule(x, "1");
        check.is("30: it stays", x.count(8), 1);
        check.asks("32: it stays", x, x::fits, 2, "128 128");
    }

    private static void forgetAll() {
        SilentLetters x = Check.withWords(FOUR);
        x.looks(0, 0);
        check.leaves("31: nothing", x, x::forget, 0);
        x.noticed(0, 1, 1);
        x.noticed(0, 1, 0);
        check.is("31: two", x.forget(), 2);
        check.is("44: none", x.count(8), 0);
        check.is("31: the ROW stays", Check.row(x), "7 0 1");
        check.leaves("31: nothing more", x, x::forget, 0);
        check.asks("32: all fits again", x, x::fits, 4, "0 0");
    }

    // ---- 32, 33: fits, next

    private static void fitsWithoutNotices() {
        SilentLetters none = new SilentLetters();
        check.asks("32: no words", none, none::fits, 1, "0 0");
        SilentLetters x = Check.withWords(UNSAID);
        check.asks("32: all sets of eight", x, x::fits, 256, "0 0");
        SilentLetters said = Check.withWords("ab;a");
        check.asks("32: none is unsaid", said, said::fits, 1, "0 0");
        SilentLetters y = Check.withWords(EIGHT);
        check.asks("32: all sets of seven", y, y::fits, 128, "0 0");
    }

    private static void fitsOneAndAll() {
        SilentLetters x = Check.withWords(ALL_OR_NOT);
        x.noticed(0, 1, 1);
        check.asks("32: all eight alone", x, x::fits, 1, "255 255");
        x.forget();
        x.noticed(1, 0, 0);
        check.asks("32: all the other sets", x, x::fits, 255, "0 0");
        SilentLetters y = Check.withWords(UNSAID);
        y.noticed(0, 1, 0);
        check.asks("32: as ever", y, y::fits, 256, "0 0");
    }

    private static void fitsNothing() {
        SilentLetters x = Check.withWords(UNSAID);
        x.looks(0, 255);
        x.noticed(0, 1, 1);
        check.asks("32: nothing without", x, x::fits, 0, "");
        SilentLetters y = Check.withWords(FOUR);
        y.noticed(0, 1, 1);
        y.noticed(0, 1, 0);
        y.looks(0, 0);
        check.asks("32: one and not one", y, y::fits, 0, "");
        SilentLetters twins = Check.withWords("ab;ab");
        twins.looks(0, 0);
        twins.noticed(0, 1, 0);
        check.asks("32: like ones are ever one", twins, twins::fits, 0, "");
    }

    private static void fitsTheFewest() {
        // by h, or by a and b, and by all with one of these
        SilentLetters x = Check.withWords("dABH;dHAB");
        x.noticed(0, 1, 1);
        check.asks("32: the fewest, not the least", x, x::fits, 5, "128 0");
        SilentLetters y = Check.withWords("aBC;aCB");
        y.noticed(0, 1, 1);
        check.asks("32: of as few the least", y, y::fits, 3, "2 0");
        SilentLetters z = Check.withWords("aBC;a;Gd");
        z.noticed(0, 1, 1);
        check.asks("32: in all of these", z, z::fits, 2, "6 6");
    }

    private static void fitsOfUnsaidAlone() {
        SilentLetters x = Check.withWords(FOUR);
        x.mutes(0, 0);
        check.asks("32: h is said", x, x::fits, 2, "0 0");
        x.mutes(1, 0);
        check.asks("32: a is unsaid twice", x, x::fits, 2, "0 0");
        x.mutes(1, 1);
        check.is("13: b is the only said one", x.at(1, 1), 1);
        x.mutes(0, 2);
        check.asks("32: b is unsaid, too", x, x::fits, 4, "0 0");
    }

    private static void nextOfFewerThanTwo() {
        SilentLetters none = new SilentLetters();
        none.days(0);
        check.leaves("33: no words", none, none::next, -2);
        SilentLetters one = Check.withWords("aB");
        one.looks(0, 0);
        check.leaves("33: one word", one, one::next, -2);
        Check.words(one, "a");
        check.asks("33: two words", one, one::next, 1, "0 1");
    }

    private static void nextIfNoneFits() {
        SilentLetters x = Check.withWords(FOUR);
        x.looks(0, 0);
        x.noticed(0, 1, 1);
        x.noticed(1, 0, 0);
        check.leaves("33: none fits", x, x::next, -2);
        x.forget();
        check.asks("33: four fit", x, x::next, 2, "0 1");
    }

    private static void nextOfEqualOnes() {
        SilentLetters x = Check.withWords(FOUR);
        x.noticed(0, 1, 1);
        x.noticed(2, 3, 1);
        check.asks("33: one set alone, the least row", x, x::next, 1, "0 1");
        SilentLetters y = Check.withWords("c;d;aB;a;dB");
        // 2-3 and 1-4 by b: the least row
        check.asks("33: of equal ones the least row", y, y::next, 1, "1 4");
    }

    private static void nextOfTheLast() {
        SilentLetters x = Check.withWords("a;b;c;d;e;f;gH;g");
        check.asks("33: the last two", x, x::next, 1, "6 7");
        SilentLetters y = Check.withWords("gH;b;c;d;e;f;a;g");
        check.asks("33: the first and the last", y, y::next, 1, "0 7");
    }

    private static void nextAtTheEnds() {
        SilentLetters x = Check.withWords("ab;ba");
        check.asks("33: nothing can be one", x, x::next, 1, "0 1");
        SilentLetters y = Check.withWords(UNSAID);
        check.asks("33: nothing is ever one", y, y::next, 256, "0 1");
        SilentLetters z = Check.withWords(ALL_OR_NOT);
        check.asks("33: but by all", z, z::next, 255, "0 1");
        SilentLetters twins = Check.withWords("aB;aB");
        check.asks("33: they are ever one", twins, twins::next, 2, "0 1");
        // of four sets 0 and 1 are one by three, 0 and 2 by two
        SilentLetters half = Check.withWords("aBC;aCB;aB;aBC");
        check.asks("33: by half", half, half::next, 2, "0 2");
    }

    private static void nextAtOnce() {
        SilentLetters x = Check.withWords("c;Hab;ab;cAb;cb");
        for (int i = 0; i < 3; i++) {
            check.tells("33: by h, or by a", x, x.next(), 2, "1 2");
        }
        x.mutes(1, 0);
        check.tells("33: by a alone", x, x.next(), 1, "3 4");
        x.mutes(3, 1);
        check.tells("33: by none", x, x.next(), 1, "0 1");
    }
}
