/** Edges that the terms and the promises 1 to 5 name: THE TEXT, WORDS, THE RULE. */
public final class EdgesOfTextsTest {
    private static final int LEAST = Integer.MIN_VALUE;
    private static final int GREATEST = Integer.MAX_VALUE;
    // As ints this is the least one: 2 to the 31.
    private static final String WRAPPED = "128*128*128*128*8";

    private static final Check check = new Check();

    public static void main(String[] args) {
        newObjectHasNothing();
        newLettersAreAllAlike();

        signsUpToEighty();
        refusedSignLeavesTheText();
        signsHighestByteFirst();
        signsOfAllEightBits();
        endOfAllAndOfNone();
        endRefused();
        endCutsForGood();

        emptyTextTellsNoWords();
        everySignAloneAsWord();
        everySignBehindALetter();
        oneToEightLetters();
        ninthLetterIsAtFault();
        lineWithoutSaidEndsWrong();
        textEndsTooEarly();
        emptyLines();
        roomForEightWords();
        noRoomComesAheadOfOtherFaults();
        longestTextOfWords();
        textsOfEightySigns();
        nothingComesIfALineCannot();
        refusedWordsForgetNothing();
        wordsComeBehindAndAtOnce();
        wordsLeaveDaysAndMoods();

        noRuleAtFirst();
        everySignAloneAsRule();
        everySignBehindAThing();
        everySignBehindANumber();
        numbersOfOneToThreeDigits();
        fourBracketsInOneAnother();
        bracketsOpenAndClose();
        oneComparisonInBrackets();
        anyManyMinuses();
        ruleEndsTooEarly();
        fortySignsOfRule();
        moreThanFortySignsOfRule();
        refusedRuleLeavesTheRule();
        rulesThatWereHaveNoPart();
        comparisonsAtEquals();
        fromTheLeft();
        whatBindsMore();
        divisionByZeroAndCut();
        ruleWrapsAsInts();
        thingsAtTheirEnds();
        restOfDayBySeven();
        check.end();
    }

    // ---- 1: a new object

    private static void newObjectHasNothing() {
        SilentLetters x = new SilentLetters();
        int[] due = {0, 0, 0, 0, 40, 0, 0, 0, 0, 0, 0, 0};
        for (int what = 0; what < due.length; what++) {
            check.is("1: count(" + what + ") at first", x.count(what), due[what]);
        }
        check.noSuchLeaves("1: word(0, 0)", x, () -> x.word(0, 0));
        check.noSuchLeaves("1: at(0, 0)", x, () -> x.at(0, 0));
        check.noSuchLeaves("1: row(0)", x, () -> x.row(0));
        check.leaves("1: undo()", x, x::undo, -1);
        check.leaves("1: forget()", x, x::forget, 0);
        for (int i = 0; i < 3; i++) {
            int number = i;
            check.leaves("1: again(" + i + ")", x, () -> x.again(number) ? 1 : 0, 0);
        }
    }

    private static void newLettersAreAllAlike() {
        SilentLetters x = new SilentLetters();
        int[] due = {5, 0, 0, 0, 0, 2};
        for (int letter = 0; letter < 8; letter++) {
            for (int what = 0; what < due.length; what++) {
                check.is("1: letter(" + letter + ", " + what + ") at first", x.letter(letter, what), due[what]);
            }
        }
    }

    // ---- 2: sign

    private static void signsUpToEighty() {
        SilentLetters x = new SilentLetters();
        for (int n = 4; n <= 80; n += 4) {
            check.is("2: sign() as number " + n, x.sign(0), n);
        }
        check.leaves("2: sign() behind 80", x, () -> x.sign(0), -1);
        for (int n = 79; n >= 77; n--) {
            x.end(n);
            check.leaves("2: sign() behind " + n, x, () -> x.sign(GREATEST), -1);
        }
        x.end(76);
        check.is("2: sign() behind 76", x.sign(LEAST), 80);
    }

    private static void refusedSignLeavesTheText() {
        SilentLetters x = new SilentLetters();
        Check.text(x, "aB;c" + "d".repeat(73));
        check.is("2: sign() behind 77", x.sign('h' << 24 | 'h' << 16), -1);
        check.is("2: none of the four came", x.end(78), false);
        x.end(4);
        check.is("2: the text is as it was", x.words(), 2);
        check.is("2: the text is as it was", x.at(0, 1), 9);
        check.is("2: the text is as it was", x.at(1, 0), 2);
    }

    private static void signsHighestByteFirst() {
        SilentLetters x = new SilentLetters();
        x.sign('a' << 24 | 'B' << 16 | 'c' << 8 | 'D');
        x.sign('e' << 24 | 'F' << 16 | 'g' << 8 | 'H');
        check.is("2: a word", x.words(), 1);
        int[] due = {0, 9, 2, 11, 4, 13, 6, 15};
        for (int i = 0; i < due.length; i++) {
            check.is("2: sign " + i, x.at(0, i), due[i]);
        }
    }

    private static void signsOfAllEightBits() {
        // a letter's number and 128 more is no letter; nor is one of nine bits
        int[] bytes = {'a' + 128, 255, 128, 0};
        for (int b : bytes) {
            SilentLetters x = new SilentLetters();
            check.is("2: sign", x.sign(b << 24 | 'a' << 16), 4);
            x.end(1);
            check.is("2: no letter is " + b, x.words(), -1);
            x.sign('a' << 24 | b << 16);
            x.end(2);
            check.is("2: no letter is " + b, x.words(), -2);
            x.sign('a' << 24 | 'b' << 16 | 'c' << 8 | b);
            check.is("2: no letter is " + b, x.words(), -4);
        }
        SilentLetters x = new SilentLetters();
        check.is("2: of the least number", x.sign(LEAST), 4);
        check.is("2: of -1", x.sign(-1), 8);
        check.is("2: of the greatest", x.sign(GREATEST), 12);
    }

    // ---- 3: end

    private static void endOfAllAndOfNone() {
        SilentLetters x = new SilentLetters();
        check.leaves("3: end(0) of none", x, () -> x.end(0) ? 1 : 0, 1);
        check.leaves("3: end(1) of none", x, () -> x.end(1) ? 1 : 0, 0);
        x.sign(0);
        check.leaves("3: end(4) of 4", x, () -> x.end(4) ? 1 : 0, 1);
        check.is("3: end(0) of 4", x.end(0), true);
        check.is("3: none are left", x.count(11), 0);
        for (int i = 0; i < 20; i++) {
            x.sign(0);
        }
        check.leaves("3: end(80) of 80", x, () -> x.end(80) ? 1 : 0, 1);
        check.leaves("3: end(81) of 80", x, () -> x.end(81) ? 1 : 0, 0);
        check.is("3: end(79) of 80", x.end(79), true);
        check.is("3: 79 are left", x.count(11), 79);
    }

    private static void endRefused() {
        SilentLetters x = new SilentLetters();
        x.sign('a' << 24 | 'b' << 16 | 'c' << 8 | 'd');
        for (int n : new int[] {5, -1, 6, -4, LEAST, GREATEST}) {
            check.leaves("3: end(" + n + ") of 4", x, () -> x.end(n) ? 1 : 0, 0);
        }
        check.is("3: the text is as it was", x.words(), 1);
        check.is("3: the text is as it was", x.word(0, 0), 4);
    }

    private static void endCutsForGood() {
        SilentLetters x = new SilentLetters();
        x.sign('a' << 24 | 'b' << 16 | 'c' << 8 | 'd');
        check.is("3: end(1)", x.end(1), true);
        check.is("3: end(2) of 1", x.end(2), false);
        check.is("3: four come behind the first", x.sign('e' << 24 | 'f' << 16 | 'g' << 8 | 'h'), 5);
        check.is("3: a word", x.words(), 1);
        int[] due = {0, 4, 5, 6, 7};
        for (int i = 0; i < due.length; i++) {
            check.is("3: sign " + i, x.at(0, i), due[i]);
        }
    }

    // ---- 4: words

    private static void emptyTextTellsNoWords() {
        SilentLetters x = new SilentLetters();
        check.leaves("4: no text, no words", x, x::words, 0);
        Check.words(x, "a;b;c;d;e;f;g");
        x.days(1);
        x.keep(0);
        check.leaves("4: no text", x, x::words, 0);
        check.is("43: no words came", x.again(0), true);
        Check.words(x, "h");
        check.leaves("4: no text, no room", x, x::words, 0);
    }

    private static void everySignAloneAsWord() {
        for (int c = 0; c < 256; c++) {
            SilentLetters x = new SilentLetters();
            boolean said = c >= 97 && c <= 104;
            boolean unsaid = c >= 65 && c <= 72;
            Check.text(x, String.valueOf((char) c));
            int due = said ? 1 : unsaid ? -2 : -1;
            check.is("4: words() of sign " + c, x.words(), due);
            check.is("4: words there behind sign " + c, x.count(0), said ? 1 : 0);
            if (said) {
                check.is("4: the letter of sign " + c, x.at(0, 0), c - 97);
            }
        }
    }

    private static void everySignBehindALetter() {
        for (int c = 0; c < 256; c++) {
            SilentLetters x = new SilentLetters();
            boolean said = c >= 97 && c <= 104;
            boolean unsaid = c >= 65 && c <= 72;
            Check.text(x, "b" + (char) c);
            check.is("4: words() of b and sign " + c, x.words(), said || unsaid ? 1 : c == ';' ? -3 : -2);
            if (said || unsaid) {
                check.is("4: the letter of sign " + c, x.at(0, 1), said ? c - 97 : c - 65 + 8);
            }
        }
    }

    private static void oneToEightLetters() {
        for (int n = 1; n <= 8; n++) {
            SilentLetters x = new SilentLetters();
            check.is("4: a word of " + n, Check.words(x, "a".repeat(n)), 1);
            check.is("6: its signs", x.word(0, 0), n);
            check.is("4: but one unsaid", Check.words(x, "A".repeat(n - 1) + "a"), 1);
            check.is("6: its signs", x.word(1, 0), n);
            check.is("4: but one unsaid, the first is said", Check.words(x, "a" + "A".repeat(n - 1)), 1);
            check.is("44: unsaid ones", x.count(6), 2 * (n - 1));
        }
    }

    private static void ninthLetterIsAtFault() {
        for (String ninth : new String[] {"a", "A", "h", "H"}) {
            SilentLetters x = new SilentLetters();
            Check.text(x, "aaaaaaaa" + ninth);
            check.emptiesText("4: a ninth letter " + ninth, x, x::words, -9);
            Check.text(x, "AAAAAAAA" + ninth);
            check.emptiesText("4: a ninth letter behind unsaid ones " + ninth, x, x::words, -9);
            Check.text(x, "ab;aaaaaaaa" + ninth + ";x");
            check.emptiesText("4: a ninth letter of the second line " + ninth, x, x::words, -12);
        }
    }

    private static void lineWithoutSaidEndsWrong() {
        for (int n = 1; n <= 8; n++) {
            SilentLetters x = new SilentLetters();
            String line = "ABCDEFGH".substring(0, n);
            Check.text(x, line);
            check.emptiesText("4: " + line, x, x::words, -1 - n);
            Check.text(x, line + ";a");
            check.emptiesText("4: " + line + ";a", x, x::words, -1 - n);
            Check.text(x, "a;" + line);
            check.emptiesText("4: a;" + line, x, x::words, -1 - n - 2);
            Check.text(x, "a;" + line + ";a");
            check.emptiesText("4: a;" + line + ";a", x, x::words, -1 - n - 2);
        }
    }

    private static void textEndsTooEarly() {
        SilentLetters x = new SilentLetters();
        Check.text(x, "a;");
        check.emptiesText("4: a;", x, x::words, -3);
        Check.text(x, "aB;bA;");
        check.emptiesText("4: aB;bA;", x, x::words, -7);
        Check.text(x, "aaaaaaaa;");
        check.emptiesText("4: eight letters and ;", x, x::words, -10);
    }

    private static void emptyLines() {
        SilentLetters x = new SilentLetters();
        Check.text(x, ";");
        check.emptiesText("4: ;", x, x::words, -1);
        Check.text(x, ";a");
        check.emptiesText("4: ;a", x, x::words, -1);
        Check.text(x, "a;;b");
        check.emptiesText("4: a;;b", x, x::words, -3);
    }

    private static void roomForEightWords() {
        for (int there = 0; there <= 8; there++) {
            SilentLetters x = new SilentLetters();
            int room = 8 - there;
            check.is("4: " + there + " words", Check.words(x, lines(there)), there);
            Check.text(x, lines(room + 1));
            check.emptiesText("4: one more than " + room, x, x::words, -1 - 2 * room);
            Check.text(x, lines(room + 3));
            check.emptiesText("4: three more than " + room, x, x::words, -1 - 2 * room);
            check.is("4: " + room + " more", Check.words(x, lines(room)), room);
            check.is("44: eight", x.count(0), 8);
            Check.text(x, "a");
            check.emptiesText("4: a ninth", x, x::words, -1);
        }
    }

    private static String lines(int n) {
        return n == 0 ? "" : "a;".repeat(n - 1) + "a";
    }

    private static void noRoomComesAheadOfOtherFaults() {
        SilentLetters x = Check.withWords(lines(7));
        Check.text(x, "b;A");
        check.emptiesText("4: no room for a line that has none said", x, x::words, -3);
        Check.text(x, "b;Ax");
        check.emptiesText("4: no room for a line that has a wrong sign", x, x::words, -3);
        Check.text(x, "b;aaaaaaaaa");
        check.emptiesText("4: no room for a line that is too long", x, x::words, -3);
        Check.text(x, "b;");
        check.emptiesText("4: no room, and it ends", x, x::words, -3);
        Check.text(x, "A;b");
        check.emptiesText("4: but a fault ahead of that", x, x::words, -2);
        Check.text(x, "bx;b");
        check.emptiesText("4: but a fault ahead of that", x, x::words, -2);
    }

    private static void longestTextOfWords() {
        String longest = "aBCDEFGH;".repeat(7) + "aBCDEFGH";
        SilentLetters x = new SilentLetters();
        Check.text(x, longest + "a");
        check.emptiesText("4: 72 signs, a letter too many", x, x::words, -72);
        Check.text(x, longest + ";");
        check.emptiesText("4: 72 signs, a line too many", x, x::words, -73);
        Check.text(x, longest + ";a");
        check.emptiesText("4: 73 signs, a line too many", x, x::words, -73);
        check.is("4: 71 signs", Check.words(x, longest), 8);
        check.is("44: unsaid signs", x.count(6), 56);
        check.is("44: said signs", x.count(7), 8);
        check.is("7: the last sign", x.at(7, 7), 15);
    }

    private static void textsOfEightySigns() {
        SilentLetters x = new SilentLetters();
        String longest = "aBCDEFGH;".repeat(8);
        for (int n = 78; n <= 80; n++) {
            Check.text(x, (longest + "aBCDEFGH").substring(0, n));
            check.emptiesText("4: a ninth line of " + n + " signs", x, x::words, -73);
            Check.text(x, "a;".repeat(n).substring(0, n));
            check.emptiesText("4: short lines of " + n + " signs", x, x::words, -17);
            Check.text(x, "a".repeat(n));
            check.emptiesText("4: one line of " + n + " signs", x, x::words, -9);
        }
    }

    private static void nothingComesIfALineCannot() {
        SilentLetters x = new SilentLetters();
        Check.text(x, "ABCDEFGh;ABc;A");
        check.emptiesText("4: two lines and one that can't", x, x::words, -15);
        check.is("4: one line of one", Check.words(x, "d"), 1);
        check.is("6: nothing is left of the first", x.word(0, 0), 1);
        check.is("7: nothing is left of the first", x.at(0, 0), 3);
        Check.text(x, "AbcdefgH;x");
        check.emptiesText("4: a line and one that can't", x, x::words, -10);
        check.is("4: one line of eight", Check.words(x, "abcdefgh"), 1);
        check.is("44: nothing is unsaid", x.count(6), 0);
    }

    private static void refusedWordsForgetNothing() {
        SilentLetters x = Check.withWords("Hab;ab");
        x.noticed(0, 1, 1);
        x.offer(0, 1);
        x.keep(2);
        x.days(1);
        Check.text(x, "c;C");
        check.emptiesText("4: refused words", x, x::words, -4);
        check.is("15: what can be undone", x.undo(), 1);
        check.is("43: what was kept", x.again(2), true);
        check.is("30: what was noticed", x.forget(), 1);
    }

    private static void wordsComeBehindAndAtOnce() {
        SilentLetters x = Check.withWords("Hab");
        check.is("4: how many lines, not how many words", Check.words(x, "ab;Ha"), 2);
        check.is("44: words", x.count(0), 3);
        check.is("7: the first stays", x.at(0, 0), 15);
        check.is("7: the second", x.at(1, 0), 0);
        check.is("7: the third", x.at(2, 0), 15);
        check.is("8: unsaid ones at once", x.letter(7, 2), 2);
        check.is("8: said ones at once", x.letter(0, 3), 3);
    }

    private static void wordsLeaveDaysAndMoods() {
        SilentLetters x = Check.withWords("Hab;ab");
        x.noticed(0, 1, 1);
        x.offer(3, 7);
        x.days(1);
        check.is("4: words behind a day", Check.words(x, "Hb;b"), 2);
        int[] due = {4, 1, 128, 1, 38, 7, 2, 6, 1, 0, 2, 0};
        for (int what = 0; what < due.length; what++) {
            check.is("4: count(" + what + ") behind words", x.count(what), due[what]);
        }
        check.is("6: by the strike that is on", x.word(2, 4), 8);
    }

    // ---- 5: rule (and 39: law, which reads as it)

    /** The fault of a text as a rule, checked as a law, too: there it is -10000 - p. */
    private static void rule(String text, int due) {
        SilentLetters x = Check.withWords("Ab");
        Check.rule(x, "7");
        Check.text(x, text);
        if (due < 0) {
            check.emptiesText("5: rule " + text, x, x::rule, due);
            Check.text(x, text);
            check.emptiesText("39: law " + text, x, x::law, -10000 + due + 1);
            check.is("5: the rule stays as it was", x.letter(0, 5), 7);
        } else {
            check.is("5: rule " + text, x.rule(), due);
            check.is("5: the text then", x.count(11), 0);
        }
    }

    /** The GRUDGE of letter a by a text as a rule, and as a law. */
    private static void grudge(SilentLetters x, String text, int due) {
        check.is("5: rule " + text, Check.rule(x, text), 0);
        check.is("1: grudge by " + text, x.letter(0, 5), due);
        Check.rule(x, "");
        check.is("39: law " + text, Check.law(x, text) >= 0, true);
        check.is("39: grudge by " + text, x.row(1), due);
    }

    private static void noRuleAtFirst() {
        SilentLetters x = new SilentLetters();
        for (int mood = 0; mood <= 9; mood++) {
            for (int offer = 0; offer <= 9; offer++) {
                x.sheet(2, 1, mood, 0);
                x.offer(0, offer);
                check.is("1: no rule, mood " + mood + ", offer " + offer, x.letter(0, 5), mood - 2 * offer - 3);
            }
        }
        check.leaves("5: an empty text at first", x, x::rule, 0);
        Check.rule(x, "1");
        check.is("5: a rule", x.letter(0, 5), 1);
        check.is("5: an empty text", x.rule(), 0);
        check.is("5: none again", x.letter(0, 5), 9 - 18 - 3);
    }

    private static void everySignAloneAsRule() {
        for (int c = 0; c < 256; c++) {
            boolean thing = "mousndi0123456789".indexOf(c) >= 0;
            rule(String.valueOf((char) c), thing ? 0 : c == '-' || c == '(' ? -2 : -1);
        }
    }

    private static void everySignBehindAThing() {
        for (int c = 0; c < 256; c++) {
            int due = "+-*/<>=".indexOf(c) >= 0 ? -3 : -2;
            rule("m" + (char) c, due);
            rule("(m)" + (char) c, due - 2);
        }
    }

    private static void everySignBehindANumber() {
        for (int c = 0; c < 256; c++) {
            int due = "+-*/<>=".indexOf(c) >= 0 ? -3 : c >= '0' && c <= '9' ? 0 : -2;
            rule("1" + (char) c, due);
        }
    }

    private static void numbersOfOneToThreeDigits() {
        SilentLetters x = new SilentLetters();
        grudge(x, "0", 0);
        grudge(x, "9", 9);
        grudge(x, "10", 10);
        grudge(x, "99", 99);
        grudge(x, "100", 100);
        grudge(x, "999", 999);
        grudge(x, "000", 0);
        grudge(x, "007", 7);
        rule("0000", -4);
        rule("1000", -4);
        rule("m+1000", -6);
        rule("(1000)", -5);
        rule("123-1234", -8);
        // a digit goes on with a number alone, not with what stands behind one
        rule("1+m2", -4);
        rule("12*(o)3", -7);
        rule("(1)2", -4);
    }

    private static void fourBracketsInOneAnother() {
        SilentLetters x = new SilentLetters();
        grudge(x, "((((m))))", 5);
        grudge(x, "((((m))))+((((m))))", 10);
        grudge(x, "(((m+(m))))*(((1+(1))))", 20);
        rule("(((((m)))))", -5);
        rule("((((m+(m)))))", -7);
        rule("((((m))))+(((((m)))))", -15);
        rule("(((m)))+((((m+(1)))))", -15);
    }

    private static void bracketsOpenAndClose() {
        rule("()", -2);
        rule(")", -1);
        rule("m)", -2);
        rule("(m))", -4);
        rule("(m", -3);
        rule("((m)", -5);
        rule("(m+)", -4);
        rule("(-)", -3);
        rule("m(m)", -2);
        rule("(m)(m)", -4);
        rule("(m)m", -4);
        rule("(m)1", -4);
        rule("1(", -2);
    }

    private static void oneComparisonInBrackets() {
        for (String one : new String[] {"<", ">", "="}) {
            for (String other : new String[] {"<", ">", "="}) {
                rule("m" + one + "o" + other + "u", -4);
                rule("m" + one + "o+1" + other + "u", -6);
                rule("(m" + one + "o" + other + "u)", -5);
                rule("m" + one + "(o" + other + "u)", 0);
                rule("(m" + one + "o)" + other + "u", 0);
                rule("(m" + one + "o)+(m" + other + "u)", 0);
                rule("m" + one + "(o" + other + "u)=1", -8);
            }
            rule("m" + one, -3);
            rule(one + "m", -1);
            rule("m" + one + one + "o", -3);
            rule("m" + one + "-o", 0);
        }
    }

    private static void anyManyMinuses() {
        SilentLetters x = new SilentLetters();
        for (int n = 0; n <= 39; n++) {
            grudge(x, "-".repeat(n) + "m", n % 2 == 0 ? 5 : -5);
        }
        grudge(x, "1---m", -4);
        grudge(x, "2*--m", 10);
        grudge(x, "--(m)", 5);
        rule("+m", -1);
        rule("-+m", -2);
        rule("--*m", -3);
        rule("m-+m", -3);
    }

    private static void ruleEndsTooEarly() {
        rule("-", -2);
        rule("--", -3);
        rule("m+", -3);
        rule("m*-", -4);
        rule("(", -2);
        rule("((((", -5);
        rule("((((m", -6);
        rule("m<", -3);
    }

    private static void fortySignsOfRule() {
        SilentLetters x = new SilentLetters();
        grudge(x, "m" + "+1".repeat(19), 24);
        grudge(x, "m" + "+1".repeat(18) + "+10", 33);
        grudge(x, "-" + "m" + "+1".repeat(19), 14);
        grudge(x, "1" + "-(1-(1-(1-(1))))".repeat(2) + "+123+45", 169);
        // forty signs that want more end too early: at 40
        rule("m" + "+1".repeat(19) + "+", -41);
        rule("-".repeat(40), -41);
        rule("(" + "m" + "+1".repeat(19), -41);
        // the fortieth sign can't stand
        rule("m" + "+1".repeat(19) + "m", -40);
        rule("m" + "+1".repeat(19) + ")", -40);
    }

    private static void moreThanFortySignsOfRule() {
        String forty = "m" + "+1".repeat(18) + "+10";
        // could end there
        rule(forty + "0", -41);
        rule(forty + "+", -41);
        rule(forty + "+1", -41);
        rule(forty + "z", -41);
        // could go on there
        rule("-".repeat(40) + "m", -41);
        rule("m" + "+1".repeat(20), -41);
        rule("m" + "+1".repeat(19) + "+z", -41);
        rule("(m" + "+1".repeat(19) + ")", -41);
        // neither
        rule("m" + "+1".repeat(19) + "m" + "+", -40);
        rule("m" + "+1".repeat(19) + "z" + "1".repeat(40), -40);
        // eighty signs
        rule("m" + "+1".repeat(39) + "1", -41);
        rule("-".repeat(80), -41);
        rule("z".repeat(80), -1);
    }

    private static void refusedRuleLeavesTheRule() {
        SilentLetters x = Check.withWords("Ab;b");
        x.days(1);
        Check.text(x, "5+");
        check.emptiesText("5: none, and a refused one", x, x::rule, -3);
        check.is("5: still none", x.letter(1, 5), 2);
        Check.rule(x, "7+m*0");
        Check.text(x, "1+2+3+4+x");
        check.emptiesText("5: a refused one", x, x::rule, -9);
        check.is("5: the rule stays", x.letter(1, 5), 7);
        Check.rule(x, "3");
        check.is("5: a short one behind a long one", x.letter(1, 5), 3);
        // what was read of a refused one is gone
        for (String refused : new String[] {"5-", "2*-", "((((", "9-(8-(7-", "3<", "-", "12*"}) {
            check.is("5: refused " + refused, Check.rule(x, refused), -1 - refused.length());
            check.is("5: a rule behind it", Check.rule(x, "7"), 0);
            check.is("5: its grudge", x.letter(1, 5), 7);
            check.is("5: refused " + refused, Check.rule(x, refused), -1 - refused.length());
            check.is("39: a law behind it", Check.law(x, "m<(o)"), 0);
            check.is("39: its grudge", x.row(2), 0);
        }
    }

    private static void rulesThatWereHaveNoPart() {
        SilentLetters x = Check.withWords("Ab");
        // any number that was worked out last, the numbers of all signs among them
        for (int last = 0; last < 300; last++) {
            check.is("39: law " + last, Check.law(x, Integer.toString(last)), last == 0 ? 0 : 1);
            check.is("5: a rule behind it", Check.rule(x, "7"), 0);
            check.is("5: its grudge", x.letter(0, 5), 7);
            Check.law(x, "-" + last);
            check.is("39: a law behind it", Check.law(x, "9-2*3"), 1);
            check.is("39: its grudge", x.row(1), 3);
        }
    }

    private static void comparisonsAtEquals() {
        SilentLetters x = new SilentLetters();
        int[][] due = {{1, 0, 0}, {0, 0, 1}, {0, 1, 0}};
        for (int less = -1; less <= 1; less++) {
            String left = String.valueOf(5 + less);
            grudge(x, left + "<5", due[less + 1][0]);
            grudge(x, left + "=5", due[less + 1][2]);
            grudge(x, left + ">5", due[less + 1][1]);
        }
        grudge(x, "-1<0", 1);
        grudge(x, "-1>0", 0);
        grudge(x, WRAPPED + "<0", 1);
        grudge(x, WRAPPED + "-1>0", 1);
    }

    private static void fromTheLeft() {
        SilentLetters x = new SilentLetters();
        grudge(x, "9-3-2", 4);
        grudge(x, "9-3+2", 8);
        grudge(x, "9+3-2", 10);
        grudge(x, "8/4/2", 1);
        grudge(x, "8/4*2", 4);
        grudge(x, "7*3/2", 10);
        grudge(x, "7/2*3", 9);
    }

    private static void whatBindsMore() {
        SilentLetters x = new SilentLetters();
        grudge(x, "2+3*4", 14);
        grudge(x, "2*3+4", 10);
        grudge(x, "9-8/3", 7);
        grudge(x, "2+2=4", 1);
        grudge(x, "4=2+2", 1);
        grudge(x, "1<2*3", 1);
        grudge(x, "2*3<1", 0);
        grudge(x, "1<2+9", 1);
        grudge(x, "-2+3", 1);
        grudge(x, "-7/2", -3);
        grudge(x, "-3<2", 1);
        grudge(x, "(2+3)*4", 20);
        grudge(x, "2*(1<2)", 2);
    }

    private static void divisionByZeroAndCut() {
        SilentLetters x = new SilentLetters();
        grudge(x, "7/0", 0);
        grudge(x, "-7/0", 0);
        grudge(x, "0/0", 0);
        grudge(x, "7/0+1", 1);
        grudge(x, "7/(m-5)-1", -1);
        grudge(x, "7/(m-4)", 7);
        grudge(x, "7/(m-6)", -7);
        grudge(x, "7/2", 3);
        grudge(x, "-7/2", -3);
        grudge(x, "7/-2", -3);
        grudge(x, "-7/-2", 3);
        grudge(x, "-1/2", 0);
        grudge(x, "1/2", 0);
    }

    private static void ruleWrapsAsInts() {
        SilentLetters x = new SilentLetters();
        grudge(x, WRAPPED, LEAST);
        grudge(x, WRAPPED + "-1", GREATEST);
        grudge(x, "-(" + WRAPPED + ")", LEAST);
        grudge(x, "(" + WRAPPED + ")/-1", LEAST);
        grudge(x, "(" + WRAPPED + "-1)+1", LEAST);
        grudge(x, WRAPPED + "*2", 0);
        grudge(x, "999*999*999*999", 999 * 999 * 999 * 999);
    }

    private static void thingsAtTheirEnds() {
        // seven unsaid and one said of a in each of eight words; letters b to h are not there
        SilentLetters x = Check.withWords("AAAAAAAa;".repeat(7) + "AAAAAAAa");
        Check.rule(x, "u");
        check.is("1: u in all words", x.letter(0, 5), 56);
        check.is("1: u of one that is not there", x.letter(7, 5), 0);
        Check.rule(x, "s");
        check.is("1: s in all words", x.letter(0, 5), 8);
        check.is("1: s of one that is not there", x.letter(1, 5), 0);
        Check.rule(x, "i");
        check.is("1: i of the first", x.letter(0, 5), 0);
        check.is("1: i of the last", x.letter(7, 5), 7);
        for (int v = 0; v <= 9; v++) {
            x.sheet(2, 8, v, 0);
            x.offer(7, v);
            Check.rule(x, "m*10+o");
            check.is("1: m and o of the last", x.letter(7, 5), v * 11);
        }
        SilentLetters y = Check.withWords("aBCDEFGH;bA");
        Check.rule(y, "n");
        check.is("1: n of none", y.letter(3, 5), 0);
        Check.rule(y, "1");
        y.days(1);
        Check.rule(y, "n");
        check.is("1: n of all", y.letter(3, 5), 8);
    }

    private static void restOfDayBySeven() {
        SilentLetters x = new SilentLetters();
        Check.rule(x, "d");
        for (int day = 0; day <= 15; day++) {
            check.is("1: d on day " + day, x.letter(0, 5), day % 7);
            x.days(1);
        }
    }
}
