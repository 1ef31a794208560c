/** Edges that the promises 6 to 8 and 16 to 24 name: what can be asked of WORDS, LETTERS and the days ahead. */
public final class EdgesOfLooksTest {
    private static final int LEAST = Integer.MIN_VALUE;
    private static final int GREATEST = Integer.MAX_VALUE;
    // H and A are unsaid once each; by h words 0 and 1 are one, by a words 2 and 3.
    private static final String FOUR = "Hab;ab;cAb;cb";
    // By a strike of all, these eight are one: 28 pairs.
    private static final String EIGHT = "a;aB;aC;aD;aE;aF;aG;aH";
    // Every letter is unsaid once.
    private static final String UNSAID = "aBCDEFGH;bA";
    // The next is 1 apart, the second next 2, and so on.
    private static final String LADDER = "a;ab;abc;abcd;abcde;abcdef;abcdefg;abcdefgh";
    // Two words, or a word and a number, of which one is none such.
    private static final int[][] NO_PAIRS = {
        {-1, 0}, {0, -1}, {4, 0}, {0, 4}, {4, 5}, {-1, -2}, {0, 0}, {3, 3}, {4, 4}, {-1, -1},
        {LEAST, 0}, {0, LEAST}, {GREATEST, 0}, {0, GREATEST}
    };

    private static final Check check = new Check();

    public static void main(String[] args) {
        wordsThatAreThere();
        whatOfAWord();
        whatOfAWordByStrike();
        signsThatAreThere();
        lettersThatAreThere();
        whatOfALetter();

        looksOfWordsAndSets();
        looksRefused();
        looksOfTheShortestAndLongest();
        kindsOfSets();
        kindsOfNoneAndOfEight();
        apartAtTheEnds();
        apartRefused();
        sharedAtTheEnds();
        sharedRefused();
        apartAndSharedByTurns();

        chainOfLikeOnes();
        chainByZeroToEight();
        chainOfAllEight();
        chainOfTheLeastRow();
        chainThereIsNone();
        chainRefused();

        aheadZeroTo99();
        aheadRefused();
        aheadFallsStop();
        fallsOfNone();
        fallsTheLeastRow();
        fallsFromTheFirstDayOn();
        fallsUpTo99Days();
        whenOfNone();
        whenFromTheFirstDayOn();
        whenUpTo99Days();
        whenRefused();
        crossestOfNone();
        crossestOfEqualOnes();
        crossestAtTheEnds();
        crossestAtOnce();
        check.end();
    }

    // ---- 6 to 8: word, at, letter

    private static void wordsThatAreThere() {
        SilentLetters none = new SilentLetters();
        check.noSuchLeaves("6: no words", none, () -> none.word(0, 0));
        SilentLetters x = Check.withWords(FOUR);
        x.looks(0, 0);
        check.is("6: the first", x.word(0, 0), 3);
        check.is("6: the last", x.word(3, 0), 2);
        for (int word : new int[] {-1, 4, 7, 8, LEAST, GREATEST}) {
            for (int what = 0; what <= 4; what++) {
                int of = what;
                check.noSuchLeaves("6: word(" + word + ", " + what + ")", x, () -> x.word(word, of));
            }
        }
        SilentLetters eight = Check.withWords(LADDER);
        check.is("6: the eighth", eight.word(7, 0), 8);
        check.noSuchLeaves("6: a ninth", eight, () -> eight.word(8, 0));
    }

    private static void whatOfAWord() {
        SilentLetters x = Check.withWords("aBCDEFGH;hhhh");
        int[] due = {8, 8, 255, 254, 0};
        int[] other = {4, 4, 128, 0, 0};
        for (int what = 0; what <= 4; what++) {
            check.is("6: word(0, " + what + ")", x.word(0, what), due[what]);
            check.is("6: word(1, " + what + ")", x.word(1, what), other[what]);
        }
        for (int what : new int[] {-1, 5, LEAST, GREATEST}) {
            check.noSuchLeaves("6: word(0, " + what + ")", x, () -> x.word(0, what));
        }
    }

    private static void whatOfAWordByStrike() {
        SilentLetters x = Check.withWords(EIGHT);
        Check.rule(x, "1");
        x.days(1);
        for (int word = 0; word < 8; word++) {
            check.is("6: signs of word " + word, x.word(word, 0), word == 0 ? 1 : 2);
            check.is("6: signs by strike", x.word(word, 1), 1);
            check.is("6: all the others are one with it", x.word(word, 4), 255 - (1 << word));
        }
        // a letter that is said and unsaid in one word
        SilentLetters y = Check.withWords("aAAAAAAA;a");
        Check.rule(y, "1");
        y.days(1);
        check.is("6: the said one stays", y.word(0, 1), 1);
        check.is("6: letters in it", y.word(0, 2), 1);
        check.is("6: letters unsaid in it", y.word(0, 3), 1);
        check.is("6: one with it", y.word(0, 4), 2);
    }

    private static void signsThatAreThere() {
        SilentLetters none = new SilentLetters();
        check.noSuchLeaves("7: no words", none, () -> none.at(0, 0));
        SilentLetters x = Check.withWords("aBcDeFgH;Ha");
        x.looks(0, 0);
        int[] due = {0, 9, 2, 11, 4, 13, 6, 15};
        for (int i = 0; i < 8; i++) {
            check.is("7: at(0, " + i + ")", x.at(0, i), due[i]);
        }
        check.is("7: the last of the last", x.at(1, 1), 0);
        int[][] nowhere = {{-1, 0}, {2, 0}, {0, -1}, {0, 8}, {1, 2}, {1, 7}, {8, 0}, {2, -1}, {LEAST, 0}, {GREATEST, 0},
            {0, LEAST}, {0, GREATEST}};
        for (int[] w : nowhere) {
            check.noSuchLeaves("7: at(" + w[0] + ", " + w[1] + ")", x, () -> x.at(w[0], w[1]));
        }
        Check.rule(x, "1");
        x.days(1);
        check.is("7: of one that strikes, as ever", x.at(0, 7), 15);
    }

    private static void lettersThatAreThere() {
        SilentLetters x = Check.withWords(FOUR);
        x.looks(0, 0);
        for (int letter : new int[] {-1, 8, LEAST, GREATEST}) {
            for (int what = 0; what <= 5; what++) {
                int of = what;
                check.noSuchLeaves("8: letter(" + letter + ", " + what + ")", x, () -> x.letter(letter, of));
            }
        }
        for (int what : new int[] {-1, 6, LEAST, GREATEST}) {
            check.noSuchLeaves("8: letter(0, " + what + ")", x, () -> x.letter(0, what));
            check.noSuchLeaves("8: letter(7, " + what + ")", x, () -> x.letter(7, what));
        }
    }

    private static void whatOfALetter() {
        SilentLetters x = Check.withWords(UNSAID);
        Check.rule(x, "i<1");
        x.sheet(2, 8, 1, 1);
        x.offer(7, 9);
        x.days(1);
        int[][] due = {{0, 0, 1, 1, 1, 1}, {3, 0, 1, 1, 0, 0}, {4, 0, 1, 0, 0, 0}, {9, 9, 1, 0, 0, 0}};
        int[] letters = {0, 1, 2, 7};
        for (int k = 0; k < letters.length; k++) {
            for (int what = 0; what <= 5; what++) {
                check.is("8: letter(" + letters[k] + ", " + what + ")", x.letter(letters[k], what), due[k][what]);
            }
        }
    }

    // ---- 16, 17: looks, kinds

    private static void looksOfWordsAndSets() {
        SilentLetters x = Check.withWords("aBcDeFgH;hA");
        check.asks("16: by none", x, () -> x.looks(0, 0), 8, "0 1 2 3 4 5 6 7");
        check.asks("16: by all", x, () -> x.looks(0, 255), 4, "0 2 4 6");
        check.asks("16: by h", x, () -> x.looks(0, 128), 7, "0 1 2 3 4 5 6");
        check.asks("16: by all but h", x, () -> x.looks(0, 127), 5, "0 2 4 6 7");
        check.asks("16: by those said alone", x, () -> x.looks(0, 85), 8, "0 1 2 3 4 5 6 7");
        check.asks("16: the last word by a", x, () -> x.looks(1, 1), 1, "7");
        Check.rule(x, "1");
        x.days(1);
        check.asks("16: not by the strike that is on", x, () -> x.looks(0, 0), 8, "0 1 2 3 4 5 6 7");
    }

    private static void looksRefused() {
        SilentLetters none = new SilentLetters();
        check.leaves("16: no words", none, () -> none.looks(0, 0), -1);
        SilentLetters x = Check.withWords(FOUR);
        x.looks(0, 0);
        int[][] refused = {{-1, 0}, {4, 0}, {8, 0}, {0, -1}, {0, 256}, {3, 256}, {LEAST, 0}, {GREATEST, 0}, {0, LEAST},
            {0, GREATEST}};
        for (int[] r : refused) {
            check.leaves("16: looks(" + r[0] + ", " + r[1] + ")", x, () -> x.looks(r[0], r[1]), -1);
        }
        check.asks("16: the last word, the last set", x, () -> x.looks(3, 255), 2, "2 1");
    }

    private static void looksOfTheShortestAndLongest() {
        SilentLetters x = Check.withWords("ABCDEFGa;a;abcdefgh");
        check.asks("16: one is left", x, () -> x.looks(0, 255), 1, "0");
        check.asks("16: of one", x, () -> x.looks(1, 255), 1, "0");
        check.asks("16: all are left", x, () -> x.looks(2, 255), 8, "0 1 2 3 4 5 6 7");
    }

    private static void kindsOfSets() {
        SilentLetters x = Check.withWords(FOUR);
        check.asks("17: by none", x, () -> x.kinds(0), 4, "0 1 2 3");
        check.asks("17: by all", x, () -> x.kinds(255), 2, "0 0 2 2");
        check.asks("17: by h", x, () -> x.kinds(128), 3, "0 0 2 3");
        check.asks("17: by all but h", x, () -> x.kinds(127), 3, "0 1 2 2");
        for (int strike : new int[] {-1, 256, LEAST, GREATEST}) {
            check.leaves("17: kinds(" + strike + ")", x, () -> x.kinds(strike), -1);
        }
    }

    private static void kindsOfNoneAndOfEight() {
        SilentLetters none = new SilentLetters();
        none.days(0);
        check.asks("17: no words", none, () -> none.kinds(255), 0, "");
        check.leaves("17: no words, no such set", none, () -> none.kinds(256), -1);
        SilentLetters x = Check.withWords(EIGHT);
        check.asks("17: eight", x, () -> x.kinds(0), 8, "0 1 2 3 4 5 6 7");
        check.asks("17: eight are one", x, () -> x.kinds(255), 1, "0 0 0 0 0 0 0 0");
        check.asks("17: the last two are one with the first", x, () -> x.kinds(192), 6, "0 1 2 3 4 5 0 0");
        SilentLetters y = Check.withWords("b;a;aH;bH;c");
        check.asks("17: each with its first", y, () -> y.kinds(128), 3, "0 1 1 0 4");
    }

    // ---- 18, 23: apart, shared

    private static void apartAtTheEnds() {
        SilentLetters x = Check.withWords("aaaaaaaa;bbbbbbbb;h;aB;Ab;aBBBBBBB;a");
        check.asks("18: eight", x, () -> x.apart(0, 1), 8, "8");
        check.asks("18: one and eight", x, () -> x.apart(2, 0), 8, "8");
        check.asks("18: eight and one", x, () -> x.apart(0, 2), 8, "8");
        check.asks("18: twins", x, () -> x.apart(3, 4), 0, "0");
        check.asks("18: seven out", x, () -> x.apart(0, 6), 7, "7");
        check.asks("18: seven in", x, () -> x.apart(6, 0), 7, "7");
        check.asks("18: one for another", x, () -> x.apart(2, 6), 1, "1");
        Check.rule(x, "i=1");
        x.days(1);
        check.asks("18: by strike none, by no strike seven", x, () -> x.apart(5, 6), 0, "7");
        check.asks("18: by strike one, by no strike none", x, () -> x.apart(3, 4), 1, "0");
    }

    private static void apartRefused() {
        SilentLetters x = Check.withWords(FOUR);
        x.looks(0, 0);
        for (int[] r : NO_PAIRS) {
            check.leaves("18: apart(" + r[0] + ", " + r[1] + ")", x, () -> x.apart(r[0], r[1]), -1);
        }
        check.asks("18: the first and the last", x, () -> x.apart(0, 3), 2, "2");
        SilentLetters none = new SilentLetters();
        check.leaves("18: no words", none, () -> none.apart(0, 1), -1);
    }

    private static void sharedAtTheEnds() {
        SilentLetters x = Check.withWords("aaaaaaaa;bbbbbbbb;h;abcdefgh;abcdefgH;hgfedcba;aAAAAAAA");
        check.asks("23: none", x, () -> x.shared(0, 1), 0, "0");
        check.asks("23: eight", x, () -> x.shared(3, 4), 8, "8");
        check.asks("23: backwards", x, () -> x.shared(3, 5), 1, "1");
        check.asks("23: one and eight", x, () -> x.shared(2, 3), 1, "1");
        check.asks("23: eight and one", x, () -> x.shared(5, 2), 1, "1");
        check.asks("23: eight like ones", x, () -> x.shared(6, 0), 8, "8");
        Check.rule(x, "1");
        x.days(1);
        check.asks("23: by strike seven", x, () -> x.shared(3, 4), 7, "8");
        check.asks("23: by strike one", x, () -> x.shared(0, 6), 1, "8");
        check.asks("23: by strike one, the other way", x, () -> x.shared(6, 0), 1, "8");
        check.asks("23: by strike none", x, () -> x.shared(2, 4), 0, "1");
    }

    private static void sharedRefused() {
        SilentLetters x = Check.withWords(FOUR);
        x.looks(0, 0);
        for (int[] r : NO_PAIRS) {
            check.leaves("23: shared(" + r[0] + ", " + r[1] + ")", x, () -> x.shared(r[0], r[1]), -1);
        }
        check.asks("23: the first and the last", x, () -> x.shared(0, 3), 1, "1");
        SilentLetters none = new SilentLetters();
        check.leaves("23: no words", none, () -> none.shared(0, 1), -1);
    }

    private static void apartAndSharedByTurns() {
        SilentLetters x = Check.withWords("abcd;efg;h;efgabcd");
        for (int i = 0; i < 3; i++) {
            check.asks("18: nothing in common", x, () -> x.apart(0, 1), 4, "4");
            check.asks("23: nothing in common", x, () -> x.shared(0, 1), 0, "0");
            check.asks("18: one and three", x, () -> x.apart(2, 1), 3, "3");
            check.asks("23: one and three", x, () -> x.shared(2, 1), 0, "0");
            check.asks("18: three more", x, () -> x.apart(3, 0), 3, "3");
            check.asks("23: four of seven", x, () -> x.shared(3, 0), 4, "4");
        }
    }

    // ---- 19: chain

    private static void chainOfLikeOnes() {
        SilentLetters x = Check.withWords(FOUR);
        for (int word = 0; word < 4; word++) {
            int one = word;
            check.asks("19: like ones", x, () -> x.chain(one, one, 0), 1, String.valueOf(one));
            check.asks("19: like ones", x, () -> x.chain(one, one, 8), 1, String.valueOf(one));
            check.leaves("19: like ones, no such k", x, () -> x.chain(one, one, 9), -1);
            check.leaves("19: like ones, no such k", x, () -> x.chain(one, one, -1), -1);
        }
        check.leaves("19: like ones, none such", x, () -> x.chain(4, 4, 0), -1);
        check.leaves("19: like ones, none such", x, () -> x.chain(-1, -1, 0), -1);
    }

    private static void chainByZeroToEight() {
        SilentLetters x = Check.withWords("aaaaaaaa;bbbbbbbb;Aaaaaaaa");
        check.asks("19: by 0", x, () -> x.chain(0, 2, 0), 2, "0 2");
        check.leaves("19: by 7", x, () -> x.chain(0, 1, 7), -2);
        check.asks("19: by 8", x, () -> x.chain(0, 1, 8), 2, "0 1");
        check.leaves("19: by 9", x, () -> x.chain(0, 1, 9), -1);
        check.leaves("19: by -1", x, () -> x.chain(0, 2, -1), -1);
        Check.rule(x, "1");
        x.days(1);
        check.leaves("19: by 0, a strikes", x, () -> x.chain(0, 2, 0), -2);
        check.asks("19: by 1, a strikes", x, () -> x.chain(0, 2, 1), 2, "0 2");
    }

    private static void chainOfAllEight() {
        SilentLetters x = Check.withWords(LADDER);
        check.asks("19: all", x, () -> x.chain(0, 7, 1), 8, "0 1 2 3 4 5 6 7");
        check.asks("19: all, backwards", x, () -> x.chain(7, 0, 1), 8, "7 6 5 4 3 2 1 0");
        check.leaves("19: by 0", x, () -> x.chain(0, 7, 0), -2);
        check.asks("19: by 7", x, () -> x.chain(0, 7, 7), 2, "0 7");
        check.asks("19: by 6, the least row", x, () -> x.chain(0, 7, 6), 3, "0 1 7");
        check.asks("19: by 6, backwards, the least row", x, () -> x.chain(7, 0, 6), 3, "7 1 0");
    }

    private static void chainOfTheLeastRow() {
        // from aa to cc by ac or by ca, and by nothing else
        SilentLetters x = Check.withWords("cc;ca;ac;aa");
        check.asks("19: by the first", x, () -> x.chain(3, 0, 1), 3, "3 1 0");
        check.asks("19: by the first", x, () -> x.chain(0, 3, 1), 3, "0 1 3");
        // the lesser word leads nowhere: bb is beside ab alone
        SilentLetters y = Check.withWords("aa;bb;ba;hb;hh");
        check.asks("19: the shortest, not the least", y, () -> y.chain(0, 4, 1), 5, "0 2 1 3 4");
        SilentLetters z = Check.withWords("aa;ab;ac;acc;accc");
        check.asks("19: a lesser row would be longer", z, () -> z.chain(0, 4, 1), 4, "0 2 3 4");
        check.asks("19: by 2", z, () -> z.chain(0, 4, 2), 3, "0 2 4");
    }

    private static void chainThereIsNone() {
        SilentLetters x = Check.withWords("aa;ab;gg;gh");
        x.looks(3, 0);
        check.leaves("19: there is none", x, () -> x.chain(0, 2, 1), -2);
        check.leaves("19: there is none", x, () -> x.chain(3, 1, 1), -2);
        check.asks("19: there is", x, () -> x.chain(3, 1, 2), 2, "3 1");
    }

    private static void chainRefused() {
        SilentLetters x = Check.withWords(FOUR);
        x.looks(0, 0);
        int[][] refused = {{-1, 0, 1}, {0, -1, 1}, {4, 0, 1}, {0, 4, 1}, {0, 1, -1}, {0, 1, 9}, {LEAST, 0, 1}, {0, GREATEST, 1},
            {0, 1, LEAST}, {0, 1, GREATEST}, {8, 0, 8}, {0, 8, 8}};
        for (int[] r : refused) {
            check.leaves("19: chain(" + r[0] + ", " + r[1] + ", " + r[2] + ")", x, () -> x.chain(r[0], r[1], r[2]), -1);
        }
        SilentLetters none = new SilentLetters();
        check.leaves("19: no words", none, () -> none.chain(0, 0, 0), -1);
    }

    // ---- 20 to 22: ahead, falls, when

    private static void aheadZeroTo99() {
        // moods 5, 3, 4, 2, 3, 4, 2: strikes on days 1, 3, 6, 9, .., 99: 34 days, two pairs each
        SilentLetters x = Check.withWords(FOUR);
        check.asks("20: now", x, () -> x.ahead(0), 0, "0 40");
        check.asks("20: in 1", x, () -> x.ahead(1), 129, "2 36");
        check.asks("20: in 98", x, () -> x.ahead(98), 0, "66 38");
        check.asks("20: in 99", x, () -> x.ahead(99), 129, "68 34");
        x.days(1);
        check.asks("20: now, a strike is on", x, () -> x.ahead(0), 129, "2 36");
        check.asks("20: in 98 from then", x, () -> x.ahead(98), 129, "68 34");
        check.asks("20: in 99 from then", x, () -> x.ahead(99), 0, "68 36");
        SilentLetters none = new SilentLetters();
        check.asks("20: no words", none, () -> none.ahead(99), 0, "0 40");
    }

    private static void aheadRefused() {
        SilentLetters x = Check.withWords(FOUR);
        x.days(1);
        for (int n : new int[] {-1, 100, LEAST, GREATEST}) {
            check.leaves("20: ahead(" + n + ")", x, () -> x.ahead(n), -1);
        }
    }

    private static void aheadFallsStop() {
        SilentLetters x = Check.withWords(EIGHT);
        Check.rule(x, "1");
        for (int i = 0; i < 5; i++) {
            x.days(60);
        }
        check.asks("20: falls in 57 days", x, () -> x.ahead(57), 254, "9996 5");
        check.asks("20: falls in 58 days", x, () -> x.ahead(58), 254, "9999 5");
        check.asks("20: falls in 99 days", x, () -> x.ahead(99), 254, "9999 5");
    }

    private static void fallsOfNone() {
        SilentLetters none = new SilentLetters();
        none.days(0);
        check.leaves("21: no words", none, none::falls, -2);
        SilentLetters one = Check.withWords("aB");
        one.days(0);
        check.leaves("21: one word", one, one::falls, -2);
        SilentLetters twins = Check.withWords("aB;aB;Ab");
        twins.days(0);
        check.leaves("21: twins", twins, twins::falls, -2);
        SilentLetters said = Check.withWords("ab;a;b");
        said.days(0);
        check.leaves("21: all is said", said, said::falls, -2);
    }

    private static void fallsTheLeastRow() {
        SilentLetters x = Check.withWords("c;d;aB;aC;aD;a;dH");
        Check.rule(x, "1");
        check.asks("21: the least row", x, x::falls, 1, "1 6");
        Check.rule(x, "i=1");
        check.asks("21: by b alone", x, x::falls, 1, "2 5");
        Check.rule(x, "(i=7)*(d=1)");
        check.asks("21: by h alone, on the second day", x, x::falls, 2, "1 6");
        SilentLetters last = Check.withWords("a;b;c;d;e;f;gH;g");
        check.asks("21: the last two of eight", last, last::falls, 1, "6 7");
    }

    private static void fallsFromTheFirstDayOn() {
        // those that are one by the strike that is on are not asked for
        SilentLetters x = Check.withWords(FOUR);
        Check.rule(x, "d=0");
        check.asks("21: on the first day", x, x::falls, 1, "0 1");
        x.days(1);
        check.is("6: they are one now", x.word(0, 4), 2);
        check.asks("21: in a week", x, x::falls, 7, "0 1");
        Check.rule(x, "0");
        check.leaves("21: never again", x, x::falls, -2);
    }

    private static void fallsUpTo99Days() {
        // found by a search: nothing falls for 100 days, then 0 and 1 do
        SilentLetters x = Check.withWords("aBCD;a;gEFH");
        Check.rule(x, "(o<m)+(i>d)*(m>u)*(d=2)-(n=0)");
        setLetters(x, new int[] {5, 2, 4, 3, 8, 3, 9, 3}, new int[] {7, 2, 8, 9, 7, 7, 1, 5});
        x.looks(1, 0);
        check.leaves("21: in 101 days", x, x::falls, -2);
        x.days(1);
        check.leaves("21: in 100 days", x, x::falls, -2);
        check.asks("20: in 99 days, none", x, () -> x.ahead(99), x.ahead(99), "0 " + x.row(1));
        x.days(1);
        check.asks("21: in 99 days", x, x::falls, 99, "0 1");
        x.days(1);
        check.asks("21: in 98 days", x, x::falls, 98, "0 1");
    }

    private static void setLetters(SilentLetters x, int[] moods, int[] offers) {
        for (int letter = 0; letter < 8; letter++) {
            x.stirs(letter, moods[letter] - 5);
            x.offer(letter, offers[letter]);
        }
    }

    private static void whenOfNone() {
        SilentLetters none = new SilentLetters();
        none.days(0);
        check.leaves("22: no words", none, () -> none.when(0), -2);
        SilentLetters x = Check.withWords("aB");
        x.days(0);
        Check.rule(x, "1");
        check.leaves("22: a says something", x, () -> x.when(0), -2);
        check.leaves("22: c is not there", x, () -> x.when(2), -2);
        Check.rule(x, "0");
        check.leaves("22: b has no grudge", x, () -> x.when(1), -2);
    }

    private static void whenFromTheFirstDayOn() {
        SilentLetters x = Check.withWords(UNSAID);
        Check.rule(x, "1");
        check.asks("22: every day, the first letter", x, () -> x.when(0), 1, "99");
        check.asks("22: every day, the last letter", x, () -> x.when(7), 1, "99");
        Check.rule(x, "d=0");
        check.asks("22: once a week", x, () -> x.when(3), 1, "15");
        x.days(1);
        check.asks("22: in a week", x, () -> x.when(3), 7, "14");
        Check.rule(x, "0");
        check.is("8: it strikes now", x.letter(3, 4), 1);
        check.leaves("22: never again", x, () -> x.when(3), -2);
    }

    private static void whenUpTo99Days() {
        // found by a search: e strikes for the first time on day 132, the day behind four strike
        SilentLetters x = Check.withWords(UNSAID);
        Check.rule(x, "(i=n)+(d<m)*(o=m)+(m<u)*(d>0)");
        setLetters(x, new int[] {0, 9, 2, 4, 7, 1, 8, 2}, new int[] {1, 0, 7, 9, 4, 3, 0, 9});
        x.days(32);
        check.leaves("22: in 100 days", x, () -> x.when(4), -2);
        x.days(1);
        check.asks("22: in 99 days", x, () -> x.when(4), 99, "1");
        check.asks("20: it strikes then", x, () -> x.ahead(99) & 16, 16, Check.row(ahead(x, 99)));
        check.asks("20: not the day ahead", x, () -> x.ahead(98) & 16, 0, Check.row(ahead(x, 98)));
    }

    private static SilentLetters ahead(SilentLetters x, int n) {
        x.ahead(n);
        return x;
    }

    private static void whenRefused() {
        SilentLetters x = Check.withWords(FOUR);
        x.days(1);
        for (int letter : new int[] {-1, 8, LEAST, GREATEST}) {
            check.leaves("22: when(" + letter + ")", x, () -> x.when(letter), -1);
        }
    }

    // ---- 24: crossest

    private static void crossestOfNone() {
        SilentLetters none = new SilentLetters();
        none.days(0);
        check.leaves("24: no words", none, none::crossest, -2);
        SilentLetters x = Check.withWords("abh");
        x.days(0);
        check.leaves("24: all is said", x, x::crossest, -2);
        x.mutes(0, 2);
        check.tells("24: h is unsaid at once", x, x.crossest(), 7, "2 1");
        x.mutes(0, 2);
        check.is("24: h is said at once", x.crossest(), -2);
    }

    private static void crossestOfEqualOnes() {
        SilentLetters x = Check.withWords(UNSAID);
        check.asks("24: all", x, x::crossest, 0, "2 8");
        x.stirs(7, 1);
        check.asks("24: the last", x, x::crossest, 7, "3 1");
        x.stirs(5, 1);
        check.asks("24: the first of two", x, x::crossest, 5, "3 2");
        x.stirs(5, 1);
        check.asks("24: the one", x, x::crossest, 5, "4 1");
        SilentLetters y = Check.withWords("abC;D");
        check.is("4: nothing came", y.count(0), 0);
        Check.words(y, "abC;Dd");
        y.stirs(0, 4);
        check.asks("24: a says something", y, y::crossest, 2, "2 2");
    }

    private static void crossestAtTheEnds() {
        SilentLetters x = Check.withWords("aBCH");
        String least = "128*128*128*128*8";
        Check.rule(x, "0");
        check.asks("24: by 0", x, x::crossest, 1, "0 3");
        Check.rule(x, "-i");
        check.asks("24: below 0", x, x::crossest, 1, "-1 1");
        Check.rule(x, "i-9");
        check.asks("24: below 0, the last", x, x::crossest, 7, "-2 1");
        Check.rule(x, least);
        check.asks("24: the least there is", x, x::crossest, 1, "-2147483648 3");
        Check.rule(x, least + "+(i=7)");
        check.asks("24: the least there is and one more", x, x::crossest, 7, "-2147483647 1");
        Check.rule(x, least + "-1");
        check.asks("24: the greatest there is", x, x::crossest, 1, "2147483647 3");
    }

    private static void crossestAtOnce() {
        SilentLetters x = Check.withWords("aBC");
        x.offer(1, 2);
        check.tells("24: behind an offer", x, x.crossest(), 2, "2 1");
        x.stirs(2, -4);
        check.tells("24: behind a mood", x, x.crossest(), 1, "-2 2");
        x.undo();
        check.tells("24: behind what is undone", x, x.crossest(), 2, "2 1");
        Check.rule(x, "n-d*i");
        x.days(1);
        check.tells("24: behind a day", x, x.crossest(), 1, "-1 1");
    }
}
