/** Answers worked out by hand from the document, promise by promise. */
public final class PromiseTest {
    // H and A are unsaid once each; by h words 0 and 1 are one, by a words 2 and 3.
    private static final String FOUR = "Hab;ab;cAb;cb";
    // By a strike of all, these eight are one: 28 pairs.
    private static final String EIGHT = "a;aB;aC;aD;aE;aF;aG;aH";

    private static final Check check = new Check();

    public static void main(String[] args) {
        newObject();
        texts();
        wordTexts();
        ruleTexts();
        ruleValues();
        wordAndSign();
        letters();
        sheets();
        days();
        manyFalls();
        offersAndMoods();
        mutes();
        years();
        yearFaults();
        undo();
        undoRing();
        looksAndKinds();
        apartAndShared();
        chains();
        aheadFallsWhen();
        farthestFall();
        crossest();
        mustAndMost();
        joinsSafeParts();
        notices();
        calmsAndBuys();
        power();
        misread();
        games();
        laws();
        rests();
        drawnYears();
        keepAgain();
        countAndRow();
        refusedCallsLeaveTheRow();
        check.end();
    }

    private static void newObject() {
        SilentLetters x = new SilentLetters();
        int[] due = {0, 0, 0, 0, 40, 0, 0, 0, 0, 0, 0, 0};
        for (int what = 0; what < due.length; what++) {
            check.is("1: count(" + what + ")", x.count(what), due[what]);
        }
        check.noSuch("1: word", () -> x.word(0, 0));
        check.noSuch("1: row", () -> x.row(0));
        check.is("1: undo", x.undo(), -1);
    }

    private static void texts() {
        SilentLetters x = new SilentLetters();
        for (int n = 1; n <= 20; n++) {
            check.is("2: sign", x.sign(0x61626364), 4 * n);
        }
        check.is("2: the 81st sign", x.sign(0), -1);
        check.is("2: refused, the text stays", x.count(11), 80);
        check.is("3: more than there are", x.end(81), false);
        check.is("3: below 0", x.end(-1), false);
        check.is("3: all", x.end(80), true);
        check.is("3: 77", x.end(77), true);
        check.is("2: 81 would be too many", x.sign(0), -1);
        check.is("3: 76", x.end(76), true);
        check.is("2: 80 are not", x.sign(0), 80);
        check.is("3: none", x.end(0), true);
        check.is("3: 1 of none", x.end(1), false);
        check.is("2: highest byte first", x.sign('b' << 24 | 'A' << 16 | ';' << 8 | 'c'), 4);
        check.is("2: highest byte first", x.words(), 2);
        check.is("2: signs in turn", x.at(0, 0) * 100 + x.at(0, 1) * 10 + x.at(1, 0), 100 + 80 + 2);
        check.is("4: the text is empty then", x.count(11), 0);
    }

    private static void wordTexts() {
        String[] texts = {"a", "abcdefgh", "Ah", "a;b;c", "x", "ax", "A", "A;a", "a;", ";", "a;;b", "ab cd", "i", "I",
            "abcdefgha", "ABCDEFGHa", "ABCDEFGH", "ab;ABCDEFGHa", "a;b;c;d;e;f;g;h", "a;b;c;d;e;f;g;h;", "a;b;c;d;e;f;g;h;a",
            "a;b;c;d;e;f;g;h;A", "a;b;c;d;e;f;g;h;;", "a;B;a"};
        int[] due = {1, 1, 1, 3, -1, -2, -2, -2, -3, -1, -3, -3, -1, -1,
            -9, -9, -9, -12, 8, -17, -17, -17, -17, -4};
        for (int i = 0; i < texts.length; i++) {
            SilentLetters x = new SilentLetters();
            check.is("4: words of " + texts[i], Check.words(x, texts[i]), due[i]);
            check.is("4: words there then", x.count(0), Math.max(0, due[i]));
            check.is("4: the text then", x.count(11), 0);
        }
        SilentLetters x = Check.withWords("a;b;c;d;e;f");
        check.is("4: no room for the third", Check.words(x, "g;h;ab;A"), -5);
        check.is("4: nothing of it came", x.count(0), 6);
        check.is("4: two more", Check.words(x, "g;Hh"), 2);
        check.is("4: they come behind", x.at(7, 0), 15);
        check.is("4: full", Check.words(x, "a"), -1);
        check.is("4: full, a line that is wrong, too", Check.words(x, "A"), -1);
        check.is("4: full, an empty one", Check.words(x, ""), 0);
        String longest = "abcdefgh;abcdefgh;abcdefgh;abcdefgh;abcdefgh;abcdefgh;abcdefgh;abcdefgh";
        check.is("4: the most that can be", Check.words(new SilentLetters(), longest), 8);
        check.is("4: 80 signs", Check.words(new SilentLetters(), longest + ";abcdefgh"), -73);
    }

    private static void ruleTexts() {
        String forty = "m" + "+1".repeat(19) + "0";
        String[] texts = {"", "m", "mm", "12", "123", "1234", "-", "--m", "m-", "m--o", "m-*o", "(m)", "(m", "()", "m)",
            "((((m))))", "(((((m)))))", "((((m))))+(m)", "m<o", "m<o>u", "(m<o)>u", "(m<o>u)", "m<o+1", "m<-1", "<m",
            "m+(o<u)=1", "m(o)", "1m", "m1", "(m)1", "mousndi", "z", "m z", "M", "m=(o=u)=1", forty, forty + "z", forty + "+",
            "m" + "+1".repeat(19) + "+", "m" + "+1".repeat(19) + "z1", "-".repeat(40), "-".repeat(41), "1/0", "*m",
            "m*", "m*(", "m*()", "1+2)+3", "0000"};
        int[] due = {0, 0, -2, 0, 0, -4, -2, 0, -3, 0, -3, 0, -3, -2, -2,
            0, -5, 0, 0, -4, 0, -5, 0, 0, -1,
            0, -2, -2, -2, -4, -2, -1, -2, -1, -8, 0, -41, -41,
            -41, -40, -41, -41, 0, -1,
            -3, -4, -4, -4, -4};
        for (int i = 0; i < texts.length; i++) {
            SilentLetters x = new SilentLetters();
            check.is("5: rule " + texts[i], Check.rule(x, texts[i]), due[i]);
            check.is("5: the text then", x.count(11), 0);
            int law = due[i] == 0 ? 0 : -10000 + due[i] + 1;
            check.is("39: law " + texts[i], Check.law(x, texts[i]), law);
        }
        SilentLetters x = new SilentLetters();
        Check.rule(x, "7");
        Check.rule(x, "8+");
        check.is("5: a refused rule is none", x.letter(0, 5), 7);
        Check.rule(x, "");
        check.is("5: none again", x.letter(0, 5), 2);
    }

    private static void ruleValues() {
        // letter a: mood 3, offer 4, 2 unsaid, 3 said, one letter strikes, day 1 and so on
        SilentLetters x = Check.withWords("AaA;baaB");
        Check.rule(x, "i");
        x.days(8);
        x.sheet(2, 1, 3, 0);
        x.offer(0, 4);
        check.is("8: strikers", x.count(2), 2);
        String[] rules = {"m", "o", "u", "s", "n", "d", "i", "m-o*2-3", "m+o*u", "(m+o)*u", "10-3-2", "100/7/2", "0-7/2",
            "-7/2", "7/-2", "m/0", "m/(u-2)", "1+2<4", "4<1+2", "3=m", "m>o", "m<o", "2*3=6", "-m-o", "--m", "---m",
            "-(m+o)*2", "2*-3", "999*999*999*999", "-1*999*999*999*5/3", "(1<2)+(2<3)", "1-1-1", "2-3*4/5", "12/5*5",
            "(((m)))", "((((o))))", "007", "1<2=(1=1)"};
        int[] due = {3, 4, 2, 3, 1, 1, 0, -8, 11, 14, 5, 7, -3,
            -3, -3, 0, 0, 1, 0, 1, 0, 1, 1, -7, 3, -3,
            -14, -6, (int) (998001L * 998001L), -999 * 999 * 999 * 5 / 3, 2, -1, 0, 10,
            3, 4, 7, 0};
        for (int i = 0; i < rules.length - 1; i++) {
            check.is("1: rule " + rules[i], Check.rule(x, rules[i]), 0);
            check.is("1: grudge by " + rules[i], x.letter(0, 5), due[i]);
            Check.rule(x, "");
            Check.law(x, rules[i]);
            check.is("39: grudge by " + rules[i], x.row(1), due[i]);
        }
        Check.rule(x, "i");
        check.is("8: i", x.letter(7, 5), 7);
        check.is("1: one comparison alone", Check.rule(x, rules[rules.length - 1]), -4);
    }

    private static void wordAndSign() {
        SilentLetters x = Check.withWords(FOUR);
        check.is("4: unsaid ones", x.count(6), 2);
        check.is("4: said ones", x.count(7), 8);
        check.is("6: signs by no strike", x.word(0, 1), 3);
        check.is("6: one with it by no strike", x.word(0, 4), 0);
        x.days(1);
        int[][] due = {{3, 2, 131, 128, 2}, {2, 2, 3, 0, 1}, {3, 2, 7, 1, 8}, {2, 2, 6, 0, 4}};
        for (int w = 0; w < 4; w++) {
            for (int what = 0; what < 5; what++) {
                check.is("6: word(" + w + ", " + what + ")", x.word(w, what), due[w][what]);
            }
        }
        check.is("7: unsaid h", x.at(0, 0), 15);
        check.is("7: said a", x.at(0, 1), 0);
        check.is("7: unsaid a", x.at(2, 1), 8);
        int[][] none = {{-1, 0}, {4, 0}, {0, -1}, {0, 5}, {8, 4}, {Integer.MAX_VALUE, 0}, {0, Integer.MIN_VALUE}};
        for (int[] pair : none) {
            check.noSuch("6: word(" + pair[0] + ", " + pair[1] + ")", () -> x.word(pair[0], pair[1]));
            check.noSuch("7: at(" + pair[0] + ", " + pair[1] + ")", () -> x.at(pair[0], pair[1]));
        }
        check.noSuch("7: at(0, 3)", () -> x.at(0, 3));
        check.noSuch("7: at(1, 2)", () -> x.at(1, 2));
        // only unsaid ones go: of aAbA by a there is left ab
        SilentLetters y = Check.withWords("aAbA;ab;aAb");
        Check.rule(y, "1");
        y.days(1);
        check.is("6: the said one stays", y.word(0, 1), 2);
        check.is("6: three are one", y.word(1, 4), 5);
        check.is("6: letters unsaid", y.word(0, 3), 1);
    }

    private static void letters() {
        SilentLetters x = Check.withWords(FOUR);
        x.days(1);
        x.offer(0, 2);
        int[] a = {3, 2, 1, 2, 1, -4};
        int[] b = {5, 0, 0, 4, 0, 2};
        for (int what = 0; what < 6; what++) {
            check.is("8: letter(0, " + what + ")", x.letter(0, what), a[what]);
            check.is("8: letter(1, " + what + ")", x.letter(1, what), b[what]);
        }
        int[][] none = {{-1, 0}, {8, 0}, {0, -1}, {0, 6}, {Integer.MIN_VALUE, 0}, {7, Integer.MAX_VALUE}};
        for (int[] pair : none) {
            check.noSuch("8: letter(" + pair[0] + ", " + pair[1] + ")", () -> x.letter(pair[0], pair[1]));
        }
    }

    private static void sheets() {
        SilentLetters x = new SilentLetters();
        check.is("9: bytes", x.sheet(0, 3, 254, 1), 0);
        check.is("9: bytes", x.sheet(0, 4, 254, 2), 0 + 0 + 2 + 4);
        check.is("9: the third", x.letter(2, 0), 2);
        check.is("9: those behind", x.letter(4, 0), 0);
        check.is("9: shorts", x.sheet(1, 4, 254, 2), 36);
        check.is("9: shorts, the lowest bits", x.sheet(1, 3, 65535, 3), 0 + 2 + 5);
        check.is("9: shorts, with their sign", x.sheet(1, 2, 32767, 1), 9 + 0);
        check.is("9: ints", x.sheet(2, 3, 65535, 3), 27);
        check.is("9: ints that wrap", x.sheet(2, 2, Integer.MAX_VALUE, 1), 9);
        check.is("9: down", x.sheet(2, 8, 12, -3), 9 + 9 + 6 + 3);
        check.is("9: no entries", x.sheet(0, 0, 9, 9), 0);
        check.is("9: eight", x.sheet(2, 8, 1, 0), 8);
        check.is("9: below 0", x.sheet(0, -1, 0, 0), -2);
        check.is("9: below 0", x.sheet(2, Integer.MIN_VALUE, 0, 0), -2);
        check.is("9: nothing changes", x.count(4), 8);
        check.is("9: another kind", x.sheet(4, 0, 0, 0), -1);
        check.is("9: another kind first", x.sheet(-1, -1, 0, 0), -1);
        check.is("9: too many", x.sheet(2, 9, 1, 0), -1);
        check.is("9: too many of a missing one", x.sheet(3, 9, 1, 0), -1);
        check.is("9: nothing changes", x.count(4), 8);
        check.is("9: missing", x.sheet(3, -1, 5, 5), -3);
        check.is("9: all 0", x.count(4), 0);
        check.is("15: a sheet can't be undone", x.undo(), -1);
    }

    private static void days() {
        SilentLetters x = Check.withWords(FOUR);
        check.tells("10: no day", x, x.days(0), 0, "0 0");
        check.tells("10: a day", x, x.days(1), 129, "2 1");
        check.is("10: falls", x.count(3), 2);
        check.is("10: moods", x.count(4), 36);
        // mood 3: no grudge; 4: strikes, 2; then rests for 3 and 4 (days 4 and 5)
        check.tells("10: the second day", x, x.days(1), 0, "0 0");
        check.tells("10: the third to the fifth", x, x.days(3), 0, "2 1");
        check.tells("10: the sixth", x, x.days(1), 129, "2 1");
        check.is("10: day", x.count(1), 6);
        check.is("10: falls", x.count(3), 6);
        check.is("10: below 0", x.days(-1), -1);
        check.is("10: 61", x.days(61), -1);
        check.is("10: day", x.count(1), 6);
        check.is("10: 60", x.days(60), 129);
        check.is("10: day", x.count(1), 66);
        // all is as it is ahead of the day: n does not grow while letters are asked
        SilentLetters y = Check.withWords("aABCDEFGH");
        check.is("1: nine letters are too many", y.count(0), 0);
        y = Check.withWords("aBCDEFGH");
        Check.rule(y, "1-n");
        check.is("1: n ahead of the day", y.days(1), 254);
        check.is("1: n ahead of the day", y.days(1), 0);
        // moods stop at 0 and 9, said letters have no part in it
        y = Check.withWords("aB");
        Check.rule(y, "1");
        y.days(3);
        check.is("1: 0 at least", y.letter(1, 0), 0);
        Check.rule(y, "0-1");
        y.days(20);
        check.is("1: 9 at most", y.letter(1, 0), 9);
        check.is("1: said ones are as they were", y.letter(0, 0), 5);
        // d is the day by 7
        y = Check.withWords("aB");
        Check.rule(y, "d=6");
        check.tells("1: one day of seven", y, y.days(14), 2, "0 2");
        // twins never fall
        y = Check.withWords("aB;Ab;ab;Aba");
        Check.rule(y, "m");
        check.tells("1: twins do not fall", y, y.days(1), 3, "0 1");
        y = Check.withWords("aB;A;a");
        check.is("4: all lines or none", y.count(0), 0);
        y = Check.withWords("aB;Ba;a");
        Check.rule(y, "1");
        check.tells("1: those that are no twins fall", y, y.days(2), 2, "6 2");
    }

    private static void manyFalls() {
        SilentLetters x = Check.withWords(EIGHT);
        Check.rule(x, "1");
        for (int i = 0; i < 5; i++) {
            check.tells("10: 28 a day", x, x.days(60), 254, "1680 60");
        }
        check.is("1: falls", x.count(3), 8400);
        check.tells("20: falls stop", x, x.ahead(99), 254, "9999 5");
        check.tells("10: falls aside", x, x.days(60), 254, "1680 60");
        check.is("1: falls stop", x.count(3), 9999);
        check.is("15: undone", x.undo(), 5);
        check.is("15: falls are back", x.count(3), 8400);
    }

    private static void offersAndMoods() {
        SilentLetters x = new SilentLetters();
        check.is("11: before", x.offer(7, 9), 0);
        check.is("11: before", x.offer(7, 0), 9);
        check.is("11: the same", x.offer(7, 0), 0);
        check.is("11: can be undone", x.count(9), 3);
        int[][] wrong = {{-1, 0}, {8, 0}, {0, -1}, {0, 10}, {Integer.MIN_VALUE, 1}, {1, Integer.MAX_VALUE}};
        for (int[] w : wrong) {
            check.is("11: offer(" + w[0] + ", " + w[1] + ")", x.offer(w[0], w[1]), -1);
        }
        check.is("11: together", x.count(5), 0);
        check.is("12: more", x.stirs(2, 4), 9);
        check.is("12: above 9", x.stirs(2, 1), -3);
        check.is("12: less", x.stirs(2, -9), 0);
        check.is("12: below 0", x.stirs(2, -1), -2);
        check.is("12: all of it", x.stirs(2, 9), 9);
        int[][] others = {{-1, 1}, {8, 1}, {0, 0}, {0, 10}, {0, -10}, {0, Integer.MIN_VALUE}};
        for (int[] w : others) {
            check.is("12: stirs(" + w[0] + ", " + w[1] + ")", x.stirs(w[0], w[1]), -1);
        }
        check.is("12: moods", x.count(4), 44);
        check.is("12: what was done alone is kept", x.count(9), 6);
    }

    private static void mutes() {
        SilentLetters x = Check.withWords("Hab;c");
        check.is("13: said again", x.mutes(0, 0), 3);
        check.is("13: at", x.at(0, 0), 7);
        check.is("13: unsaid", x.mutes(0, 1), 2);
        check.is("13: unsaid", x.mutes(0, 2), 1);
        check.is("8: unsaid at once", x.letter(1, 2), 1);
        check.is("8: said at once", x.letter(7, 3), 1);
        check.is("13: the only one", x.mutes(0, 0), -2);
        check.is("13: the only one", x.mutes(1, 0), -2);
        int[][] none = {{-1, 0}, {2, 0}, {0, 3}, {0, -1}, {1, 1}, {8, 0}, {Integer.MAX_VALUE, 0}};
        for (int[] w : none) {
            check.is("13: mutes(" + w[0] + ", " + w[1] + ")", x.mutes(w[0], w[1]), -1);
        }
        check.is("13: what was done alone is kept", x.count(9), 3);
        check.is("13: unsaid ones", x.count(6), 2);
        check.is("15: undone", x.undo(), 2);
        check.is("15: said again", x.at(0, 2), 1);
    }

    private static void years() {
        SilentLetters x = Check.withWords(FOUR);
        check.tells("14: empty", x, Check.year(x, ""), 0, "0 0");
        check.is("14: nothing to undo", x.undo(), -1);
        check.tells("14: all kinds", x, Check.year(x, "oh5n1ra3qb2x00n0"), 6, "0 1");
        check.is("14: offer", x.letter(7, 1), 5);
        check.is("14: mood of a", x.letter(0, 0), 6);
        check.is("14: mood of b", x.letter(1, 0), 3);
        check.is("14: mood of h", x.letter(7, 0), 6);
        check.is("14: h is said", x.at(0, 0), 7);
        check.is("14: day", x.count(1), 1);
        check.is("14: falls", x.count(3), 1);
        check.is("14: undone as one", x.count(9), 1);
        check.tells("14: till one is refused", x, Check.year(x, "n2ra9n9oa9"), 1, "1 1");
        check.is("14: day", x.count(1), 3);
        check.tells("14: the first is refused", x, Check.year(x, "x90n1"), 0, "1 1");
        check.is("14: which is nothing to undo", x.count(9), 2);
        check.tells("14: no such sign", x, Check.year(x, "x03"), 0, "1 1");
        check.tells("14: below 0", x, Check.year(x, "oc1qc9"), 1, "1 1");
        check.is("15: undone", x.undo(), 2);
        check.is("15: undone", x.undo(), 1);
        check.is("15: day", x.count(1), 1);
        check.is("15: undone", x.undo(), 0);
        check.is("15: day", x.count(1), 0);
        check.is("15: unsaid again", x.at(0, 0), 15);
        check.is("15: offers", x.count(5), 0);
        check.is("15: moods", x.count(4), 40);
        check.is("15: strike", x.count(2), 0);
        check.is("15: falls", x.count(3), 0);
        check.is("15: none", x.undo(), -1);
        check.is("14: sixty signs", Check.year(x, "n1".repeat(30)), 30);
        check.is("14: day", x.count(1), 30);
    }

    private static void yearFaults() {
        String[] texts = {"n", "na", "n1n", "nn", "o", "oa", "oi1", "oA1", "oaa", "ra0", "qa0", "ra", "xa0", "x1", "x1a", "z",
            "N1", "n1 n1", "n1".repeat(30) + "z", "n1".repeat(30) + "n", "n1".repeat(29) + "na", "n1".repeat(29) + "xx0",
            "oa1".repeat(20) + "oa1", "oa1".repeat(19) + "n1oa1", "oa1".repeat(19) + "n1z", "1", "ob"};
        int[] due = {-2, -2, -4, -2, -2, -3, -2, -2, -3, -3, -3, -3, -2, -3, -3, -1,
            -1, -3, -61, -61, -60, -60,
            -61, -61, -60, -1, -3};
        for (int i = 0; i < texts.length; i++) {
            SilentLetters x = Check.withWords(FOUR);
            x.days(1);
            check.is("14: year " + texts[i], Check.year(x, texts[i]), due[i]);
            check.is("14: the text then", x.count(11), 0);
            check.is("14: nothing is done", x.count(1), 1);
            check.is("14: nothing is done", x.count(5), 0);
            check.is("14: the ROW stays", Check.row(x), "2 1");
            check.is("14: nothing to undo", x.count(9), 1);
        }
    }

    private static void undo() {
        SilentLetters x = Check.withWords(FOUR);
        x.offer(0, 3);
        x.sheet(2, 8, 1, 0);
        check.is("15: days of none", x.days(0), 0);
        check.is("15: can be", x.count(9), 2);
        x.sheet(3, 0, 0, 0);
        check.is("15: undone", x.undo(), 1);
        check.is("15: moods as ahead of it", x.count(4), 8);
        check.is("15: undone", x.undo(), 0);
        check.is("15: moods as ahead of it", x.count(4), 40);
        check.is("15: offers", x.count(5), 0);
        x.days(1);
        x.mutes(0, 0);
        check.is("15: an empty words() forgets nothing", Check.words(x, ""), 0);
        check.is("15: a refused one neither", Check.words(x, "A"), -2);
        check.is("15: can be", x.count(9), 2);
        check.is("15: a refused again() neither", x.again(0), false);
        check.is("15: can be", x.count(9), 2);
        check.is("15: words forget", Check.words(x, "d"), 1);
        check.is("15: none", x.undo(), -1);
        check.is("15: strike stays", x.count(2), 129);
        Check.rule(x, "5");
        x.noticed(0, 1, 1);
        x.days(1);
        check.is("15: undone", x.undo(), 0);
        check.is("15: not the rule", x.letter(0, 5), 5);
        check.is("15: not what was noticed", x.count(8), 1);
    }

    private static void undoRing() {
        SilentLetters x = new SilentLetters();
        for (int i = 1; i <= 20; i++) {
            x.days(1);
            check.is("15: fifteen at most", x.count(9), Math.min(i, 15));
        }
        for (int left = 14; left >= 0; left--) {
            check.is("15: left", x.undo(), left);
        }
        check.is("15: the latest ones", x.count(1), 5);
        check.is("15: none", x.undo(), -1);
        x.days(2);
        x.days(2);
        check.is("15: left", x.undo(), 1);
        check.is("15: day", x.count(1), 7);
    }

    private static void looksAndKinds() {
        SilentLetters x = Check.withWords(FOUR + ";hAb;hab");
        check.tells("16: by none", x, x.looks(0, 0), 3, "7 0 1");
        check.tells("16: by all", x, x.looks(0, 255), 2, "0 1");
        check.tells("16: said ones stay", x, x.looks(0, 3), 3, "7 0 1");
        check.tells("16: by a", x, x.looks(4, 1), 2, "7 1");
        check.is("16: none such", x.looks(6, 0), -1);
        check.is("16: none such", x.looks(-1, 0), -1);
        check.is("16: no such set", x.looks(0, 256), -1);
        check.is("16: no such set", x.looks(0, -1), -1);
        check.is("16: the ROW stays", Check.row(x), "7 1");
        // hab three times; ab, cab, cb
        check.tells("17: by none", x, x.kinds(0), 4, "0 1 2 3 0 0");
        check.tells("17: by h", x, x.kinds(128), 4, "0 0 2 3 4 4");
        check.tells("17: by a", x, x.kinds(1), 4, "0 1 2 2 4 0");
        check.tells("17: by all", x, x.kinds(255), 4, "0 0 2 2 4 5");
        check.is("17: no such set", x.kinds(256), -1);
        check.is("17: no such set", x.kinds(-1), -1);
        SilentLetters none = new SilentLetters();
        check.tells("17: no words", none, none.kinds(0), 0, "");
        SilentLetters y = Check.withWords("abbbbbbb;bbbbbbbb;bbbbbbb;hbbbbbbb;abbbbbbb");
        check.tells("17: long words", y, y.kinds(0), 4, "0 1 2 3 0");
    }

    private static void apartAndShared() {
        SilentLetters x = Check.withWords("Hab;ab;bah;HabcdefG;gfedcba");
        check.tells("18: one out", x, x.apart(0, 1), 1, "1");
        check.tells("18: hab, bah", x, x.apart(0, 2), 2, "2");
        check.tells("23: hab, bah", x, x.shared(0, 2), 1, "1");
        check.tells("23: hab, ab", x, x.shared(0, 1), 2, "2");
        check.tells("23: backwards", x, x.shared(3, 4), 1, "1");
        Check.rule(x, "i=7");
        check.is("1: h strikes", x.days(1), 128);
        check.tells("18: by strike", x, x.apart(0, 1), 0, "1");
        check.tells("18: ab, bah", x, x.apart(0, 2), 2, "2");
        check.tells("18: ab, abcdefg", x, x.apart(1, 3), 5, "6");
        check.tells("18: the other way", x, x.apart(3, 1), 5, "6");
        check.tells("23: ab, bah", x, x.shared(0, 2), 1, "1");
        check.tells("23: ab, abcdefg", x, x.shared(0, 3), 2, "3");
        int[][] wrong = {{0, 0}, {0, 5}, {-1, 0}, {5, 5}};
        for (int[] w : wrong) {
            check.is("18: apart", x.apart(w[0], w[1]), -1);
            check.is("23: shared", x.shared(w[0], w[1]), -1);
        }
        check.is("18: the ROW stays", Check.row(x), "3");
    }

    private static void chains() {
        // two ways of as many words: by 1 and by 2
        SilentLetters x = Check.withWords("aa;cc;ac;ca;gggg;Hcc;cccc");
        check.tells("19: the least row", x, x.chain(0, 1, 1), 3, "0 2 1");
        check.tells("19: backwards", x, x.chain(1, 0, 1), 3, "1 2 0");
        check.tells("19: farther", x, x.chain(0, 5, 1), 4, "0 2 1 5");
        check.tells("19: two steps are longer", x, x.chain(0, 6, 2), 3, "0 1 6");
        check.is("19: there is none", x.chain(0, 4, 2), -2);
        check.tells("19: there is", x, x.chain(0, 4, 4), 2, "0 4");
        check.tells("19: like ones", x, x.chain(4, 4, 0), 1, "4");
        check.is("19: no zero", x.chain(5, 1, 0), -2);
        Check.rule(x, "1");
        x.days(1);
        check.tells("19: by strike", x, x.chain(5, 1, 0), 2, "5 1");
        int[][] wrong = {{-1, 0, 1}, {0, 7, 1}, {0, 1, -1}, {0, 1, 9}, {7, 7, 0}, {0, 0, 9}};
        for (int[] w : wrong) {
            check.is("19: chain", x.chain(w[0], w[1], w[2]), -1);
        }
        check.is("19: the ROW stays", Check.row(x), "5 1");
    }

    private static void aheadFallsWhen() {
        SilentLetters x = Check.withWords(FOUR);
        check.tells("20: now", x, x.ahead(0), 0, "0 40");
        check.tells("20: tomorrow", x, x.ahead(1), 129, "2 36");
        check.tells("20: in two days", x, x.ahead(2), 0, "2 38");
        check.tells("20: in 99", x, x.ahead(99), 129, "68 34");
        check.is("20: nothing changes", x.count(1) + x.count(2) + x.count(3), 0);
        check.is("20: below 0", x.ahead(-1), -1);
        check.is("20: 100", x.ahead(100), -1);
        check.tells("21: first", x, x.falls(), 1, "0 1");
        check.tells("22: h", x, x.when(7), 1, "34");
        check.is("22: b says something", x.when(1), -2);
        check.is("22: none such", x.when(8), -1);
        check.is("22: none such", x.when(-1), -1);
        check.is("22: the ROW stays", Check.row(x), "34");
        Check.rule(x, "(d=5)*(i=0)");
        check.tells("21: a alone, on the sixth day", x, x.falls(), 6, "2 3");
        check.tells("22: of 99", x, x.when(0), 6, "14");
        x.days(6);
        check.tells("20: now", x, x.ahead(0), 1, "1 46");
        check.tells("21: in a week", x, x.falls(), 7, "2 3");
        Check.rule(x, "-1");
        check.is("21: in none", x.falls(), -2);
        check.is("22: on none", x.when(0), -2);
        check.is("21: nothing changes", x.count(1), 6);
        // the ninety-ninth day and no more: the moods grow by 1 a day up to 9, so by the day alone
        SilentLetters y = Check.withWords("aB;a");
        Check.rule(y, "m=9");
        check.tells("21: the fifth day", y, y.falls(), 5, "0 1");
        check.tells("22: every third from then on", y, y.when(1), 5, "32");
        SilentLetters twins = Check.withWords("aB;Ab;aB");
        check.is("21: twins never", twins.falls(), -2);
    }

    private static void farthestFall() {
        // found by a search: nothing falls for 100 days, then 0 and 1 do
        SilentLetters x = Check.withWords("aBCD;a;gEFH");
        Check.rule(x, "(o<m)+(i>d)*(m>u)*(d=2)-(n=0)");
        int[] moods = {5, 2, 4, 3, 8, 3, 9, 3};
        int[] offers = {7, 2, 8, 9, 7, 7, 1, 5};
        for (int letter = 0; letter < 8; letter++) {
            x.stirs(letter, moods[letter] - 5);
            x.offer(letter, offers[letter]);
        }
        check.is("21: in 101 days", x.falls(), -2);
        x.days(1);
        check.is("21: in 100 days", x.falls(), -2);
        x.days(1);
        check.tells("21: in 99 days", x, x.falls(), 99, "0 1");
        x.days(60);
        check.tells("10: on the last day", x, x.days(39), x.count(2), "1 " + x.row(1));
    }

    private static void crossest() {
        SilentLetters x = Check.withWords("aBCD;Hb");
        check.tells("24: the first of equal ones", x, x.crossest(), 1, "2 4");
        x.stirs(3, 2);
        x.stirs(7, 2);
        x.stirs(0, 4);
        check.tells("24: the most", x, x.crossest(), 3, "4 2");
        Check.rule(x, "-i");
        check.tells("24: below 0", x, x.crossest(), 1, "-1 1");
        SilentLetters none = Check.withWords("ab");
        check.is("24: none such", none.crossest(), -2);
    }

    private static void mustAndMost() {
        SilentLetters x = Check.withWords(FOUR);
        check.tells("25: both must", x, x.must(15), 2, "129");
        check.tells("25: h must", x, x.must(3), 1, "128");
        check.tells("25: a must", x, x.must(12), 1, "1");
        check.tells("25: none must", x, x.must(5), 0, "0");
        check.tells("25: of none", x, x.must(0), 0, "0");
        check.tells("25: of one", x, x.must(8), 0, "0");
        check.is("25: none such", x.must(16), -1);
        check.is("25: none such", x.must(-1), -1);
        check.tells("26: none can", x, x.most(), 0, "0");
        // B or C must stay, of which B is the least; G can strike at will
        SilentLetters y = Check.withWords("aBC;a;Gd");
        check.tells("25: of as few the least", y, y.must(7), 1, "2");
        check.tells("26: of as many the least", y, y.most(), 2, "66");
        SilentLetters z = Check.withWords("aBC;a;Gd;AbC;abc");
        check.tells("25: but twins", z, z.must(25), 0, "0");
        SilentLetters eight = Check.withWords(EIGHT);
        check.tells("25: of eight words", eight, eight.must(255), 7, "254");
        check.tells("25: but the last", eight, eight.must(127), 6, "126");
        check.tells("26: of eight words", eight, eight.most(), 0, "0");
        SilentLetters none = Check.withWords("ab;ba");
        check.tells("26: none is unsaid", none, none.most(), 0, "0");
    }

    private static void joinsSafeParts() {
        SilentLetters x = Check.withWords(FOUR + ";HAb;b");
        check.tells("27: by h", x, x.joins(0, 1), 1, "128");
        check.tells("27: by both", x, x.joins(4, 5), 2, "129");
        check.is("27: by none", x.joins(0, 2), -2);
        check.is("27: like ones", x.joins(0, 0), -1);
        check.is("27: none such", x.joins(0, 6), -1);
        // 0-1, 1-4 by h, 2-3 by a, 4-5 by both meet; 0-4 are twins
        check.tells("28: the most, the least", x, x.safe(), 3, "37");
        joinsOfFew();
        safeByOneSet();
        partsOfMany();
        SilentLetters twins = Check.withWords("aB;Ab;Ba;aBc;aBd");
        check.tells("27: twins by no strike", twins, twins.joins(0, 1), 0, "0");
        // 0 meets its twin 1, and 2 by b; 1 and 2 are a and b by both
        check.tells("28: of twins one", twins, twins.safe(), 4, "30");
        SilentLetters y = Check.withWords("Hab;ab;abH;HHab;h;H");
        check.is("4: nothing came", y.count(0), 0);
        y = Check.withWords("Hab;ab;abH;HaCb;C");
        check.is("4: nothing came", y.count(0), 0);
        y = Check.withWords("Hab;ab;abH;HaCb;abc;HaCb");
        check.tells("29: h is said", y, y.parts(0, 1), 1, "1");
        check.tells("29: it is so", y, y.parts(1, 4), 0, "0");
        check.tells("29: one of two", y, y.parts(3, 1), 1, "1");
        check.is("29: twins", y.parts(3, 5), -2);
        // ab can lose h nowhere: muting a or b loses them in it alone, and then ab is not ab
        check.is("29: ab has none to say", y.parts(1, 0), -2);
        check.is("29: like ones", y.parts(0, 0), -1);
        check.is("29: none such", y.parts(0, 6), -1);
        check.is("29: none such", y.parts(-1, 0), -1);
        SilentLetters z = Check.withWords("ab;aB;b");
        check.is("29: said in the first, twins in letters", z.parts(0, 1), -2);
        check.tells("29: b is said", z, z.parts(2, 0), 0, "0");
    }

    private static void joinsOfFew() {
        SilentLetters x = Check.withWords("aBC;aCB;dABC;dCAB");
        check.tells("27: b or c, the least", x, x.joins(0, 1), 1, "2");
        check.tells("27: c, or a and b, the fewest", x, x.joins(2, 3), 1, "4");
        x.noticed(2, 3, 1);
        check.tells("32: c, or a and b, and more", x, x.fits(), 5, "4 0");
        x.forget();
    }

    private static void safeByOneSet() {
        // only if all strike is there a and a
        SilentLetters x = Check.withWords("aABCDEFG;aH");
        check.tells("27: all", x, x.joins(0, 1), 8, "255");
        check.tells("28: by one set", x, x.safe(), 1, "1");
        check.tells("37: by one set", x, x.misread(0, 1, 1), 0, "1 100000000");
        // only if none strikes are they alike
        SilentLetters y = Check.withWords("abcdefgH;ABCDEFGh");
        check.tells("28: by none", y, y.safe(), 1, "1");
        check.is("29: by none", y.parts(0, 1), -2);
        check.tells("37: by none", y, y.misread(0, 1, 9), 0, "1 100000000");
    }

    private static void partsOfMany() {
        // Cb, CB not allowed, cb are taken for cBBB and so on, cB is not
        SilentLetters x = Check.withWords("Cb;CbBB;BcA;CBc;bCAB;BbCa");
        check.tells("29: all of them", x, x.parts(0, 1), 2, "3");
        // two of the first places would do, too, but the third alone does
        check.tells("29: the fewest", x, x.parts(2, 3), 1, "4");
        check.tells("29: the fewest", x, x.parts(4, 5), 1, "8");
        check.is("29: nothing changes", x.at(0, 0), 10);
    }

    private static void notices() {
        SilentLetters x = Check.withWords(FOUR);
        check.tells("32: nothing noticed", x, x.fits(), 4, "0 0");
        check.tells("33: the first two part them", x, x.next(), 2, "0 1");
        check.is("30: one", x.noticed(0, 1, 1), 1);
        check.tells("32: h", x, x.fits(), 2, "128 128");
        check.tells("33: the last two part them", x, x.next(), 1, "2 3");
        check.is("30: two", x.noticed(3, 2, 0), 2);
        check.tells("32: h alone", x, x.fits(), 1, "128 128");
        check.tells("33: nothing to part", x, x.next(), 1, "0 1");
        check.is("30: three", x.noticed(0, 1, 0), 3);
        check.tells("32: none", x, x.fits(), 0, "");
        check.is("33: none fits", x.next(), -2);
        int[][] wrong = {{0, 0, 1}, {0, 4, 1}, {-1, 0, 0}, {0, 1, 2}, {0, 1, -1}};
        for (int[] w : wrong) {
            check.is("30: noticed", x.noticed(w[0], w[1], w[2]), -1);
        }
        check.is("30: counted", x.count(8), 3);
        check.is("31: forgotten", x.forget(), 3);
        check.is("31: forgotten", x.forget(), 0);
        for (int i = 1; i <= 12; i++) {
            check.is("30: the same again", x.noticed(0, 1, 0), i);
        }
        check.is("30: twelve", x.noticed(0, 1, 0), -1);
        check.tells("32: not h", x, x.fits(), 2, "0 0");
        Check.words(x, "d");
        check.is("30: words forget nothing", x.count(8), 12);
        SilentLetters one = Check.withWords("aB");
        check.is("33: fewer than two", one.next(), -2);
        check.tells("32: of one word", one, one.fits(), 2, "0 0");
    }

    private static void calmsAndBuys() {
        SilentLetters x = Check.withWords("aBCD;Hb");
        x.stirs(1, 4);
        x.stirs(2, -3);
        x.offer(3, 4);
        // grudges: b 6, c -1, d -6, h 2; each offer is 2 less
        check.tells("34: the least", x, x.calms(), 4, "0 3 0 0 0 0 0 1");
        check.tells("35: none", x, x.buys(0), 0, "0 0");
        check.tells("35: the cheapest", x, x.buys(3), 1, "128 2");
        check.tells("35: both", x, x.buys(4), 2, "130 0");
        check.tells("35: the rest", x, x.buys(99), 2, "130 95");
        check.is("35: 100", x.buys(100), -1);
        check.is("35: below 0", x.buys(-1), -1);
        x.stirs(7, 4);
        check.tells("35: of as cheap the least", x, x.buys(5), 1, "2 2");
        Check.rule(x, "10-o");
        check.is("34: it can't be", x.calms(), -2);
        check.tells("35: none can be", x, x.buys(99), 0, "0 99");
        Check.rule(x, "9-o");
        check.tells("34: up to 9", x, x.calms(), 32, "0 9 9 5 0 0 0 9");
        check.tells("35: most", x, x.buys(14), 2, "10 0");
        Check.rule(x, "(i=1)*10+(o<i)");
        check.is("34: for some", x.calms(), -2);
        check.tells("35: the others", x, x.buys(9), 2, "132 0");
        x.mutes(0, 1);
        check.tells("35: said ones are no more bought", x, x.buys(9), 2, "132 0");
        Check.rule(x, "1-o");
        x.mutes(0, 1);
        check.tells("35: unsaid ones at once", x, x.buys(9), 3, "134 6");
        // an offer may rouse: the least that does
        Check.rule(x, "o=0");
        check.tells("34: one each", x, x.calms(), 3, "0 1 1 0 0 0 0 1");
        Check.rule(x, "n");
        check.tells("34: n as now", x, x.calms(), 0, "0 0 0 0 0 0 0 0");
    }

    private static void power() {
        // votes: b 2, c 1, d 1: 4 in all, more than 2 are needed
        SilentLetters x = Check.withWords("aBCD;aB");
        // b turns {c}, {d}, {c,d}: 3 of 8 sets of b, c, d's others, 32 each
        check.tells("36: b", x, x.power(1), 96, "3 5");
        check.tells("36: c turns b alone", x, x.power(2), 32, "1 5");
        check.tells("36: a has none", x, x.power(0), 0, "0 1");
        check.is("36: none such", x.power(8), -1);
        check.is("36: none such", x.power(-1), -1);
        SilentLetters none = Check.withWords("ab");
        check.tells("36: no votes", none, none.power(0), 0, "0 1");
        SilentLetters one = Check.withWords("aB");
        check.tells("36: it alone", one, one.power(1), 128, "1 1");
        SilentLetters last = Check.withWords("aHHH;aBC");
        check.tells("36: h has more than half", last, last.power(7), 128, "1 1");
        check.tells("36: b turns none", last, last.power(1), 0, "0 1");
        last.mutes(1, 0);
        check.is("13: the only said one", last.count(6), 5);
    }

    private static void misread() {
        SilentLetters x = Check.withWords("aBC;a;aB;c;Abc");
        check.tells("37: both", x, x.misread(0, 1, 3), 0, "9 100");
        check.tells("37: one", x, x.misread(2, 1, 4), 0, "2 5");
        check.tells("37: c alone, b or not", x, x.misread(0, 2, 5), 0, "1 2");
        check.tells("37: never", x, x.misread(1, 3, 5), 0, "0 1");
        check.tells("37: by 0", x, x.misread(0, 1, 0), 0, "0 1");
        check.tells("37: by 10", x, x.misread(0, 1, 10), 0, "1 1");
        check.tells("37: twins by 0", x, x.misread(0, 4, 0), 0, "1 1");
        // aBC and Abc: none of a, b, c, as a strike of any parts them
        check.tells("37: twins", x, x.misread(0, 4, 1), 0, "729 1000");
        int[][] wrong = {{0, 0, 1}, {0, 5, 1}, {0, 1, -1}, {0, 1, 11}, {-1, 0, 1}};
        for (int[] w : wrong) {
            check.is("37: misread", x.misread(w[0], w[1], w[2]), -1);
        }
    }

    private static void games() {
        SilentLetters x = new SilentLetters();
        // by 1 or 2 each: a heap of 1, 4, 7, .. is lost for who is to take
        for (int n = 1; n <= 60; n++) {
            check.is("38: game(" + n + ", 2, 2)", x.game(n, 2, 2), n % 3 == 1 ? 0 : n % 3 == 2 ? 1 : 2);
        }
        // 1 or 3 against 1 or 2: 2 by 1; 3 leaves 2 or nothing; 4 by 3; the union wins by 2 or more
        int[] due = {-2, 0, 1, 0, 3, 0, 0};
        for (int n = 0; n < due.length; n++) {
            check.is("38: game(" + n + ", 3, 2)", x.game(n, 3, 2), due[n]);
        }
        // the union by 1 or 3 loses 3: of 4 the office takes 1
        check.is("38: another number for the union", x.game(4, 2, 3), 1);
        int[][] wrong = {{-1, 2, 2}, {61, 2, 2}, {5, 1, 2}, {5, 10, 2}, {5, 2, 1}, {5, 2, 10}, {0, 1, 2}, {0, 2, 10}};
        for (int[] w : wrong) {
            check.is("38: game(" + w[0] + ", " + w[1] + ", " + w[2] + ")", x.game(w[0], w[1], w[2]), -1);
        }
        check.is("38: no ROW", x.count(10), 0);
    }

    private static void laws() {
        SilentLetters x = Check.withWords(FOUR);
        check.tells("39: by i", x, Check.law(x, "i"), 128, "129 0 1 2 3 4 5 6 7");
        check.tells("39: none", x, Check.law(x, ""), 129, "129 2 2 2 2 2 2 2 2");
        Check.rule(x, "1-i");
        check.tells("39: beside another rule", x, Check.law(x, "-m"), 0, "1 -5 -5 -5 -5 -5 -5 -5 -5");
        check.is("39: the rule stays", x.letter(3, 5), -2);
        check.is("39: nothing changes", x.count(1) + x.count(2), 0);
        check.is("39: the text then", x.count(11), 0);
        check.is("39: ends too early", Check.law(x, "(m"), -10002);
        check.is("39: the ROW stays", x.count(10), 9);
        check.is("39: the text then", x.count(11), 0);
        check.is("39: the rule stays", x.letter(3, 5), -2);
    }

    private static void rests() {
        SilentLetters x = new SilentLetters();
        check.tells("40: for nothing none sits", x, x.rests(0), 1, "0 0");
        // by 1: the winner has 1 less 1 hour; at 0, 0 each has 0, and one hour brings 0
        check.tells("40: by 1", x, x.rests(1), 3, "0 0");
        // by 2: at 0, 0 each has 1, an hour brings 1; at 1, 0: 1 and 0, but one hour more brings half less 1, 0
        check.tells("40: by 2", x, x.rests(2), 4, "0 0");
        check.is("40: below 0", x.rests(-1), -1);
        check.is("40: 21", x.rests(21), -1);
        check.is("40: the ROW stays", Check.row(x), "0 0");
        // by 20: to outsit one by one pays (20 against 10) up to 9, and there half less 13 is -3, a third 6
        check.tells("40: by 20", x, x.rests(20), 0, "");
    }

    private static void drawnYears() {
        SilentLetters x = Check.withWords(FOUR);
        check.is("41: none", x.years(1, 0), -1);
        check.is("41: 61", x.years(1, 61), -1);
        // seed 0: R = 12345, 12345 / 65536 is 0: a day
        check.tells("41: a day", x, x.years(0, 1), 2, "129 36");
        // seed 1: R = 1103527590, by 65536 is 16838: 2 of 4, so an offer, of which nothing is seen
        check.tells("41: an offer", x, x.years(1, 1), 0, "0 40");
        check.is("41: nothing changes", x.count(1) + x.count(2) + x.count(3) + x.count(5), 0);
        check.is("41: nothing to undo", x.count(9), 0);
        check.is("41: nothing is muted", x.count(6), 2);
    }

    private static void keepAgain() {
        SilentLetters x = Check.withWords(FOUR);
        check.is("43: nothing kept", x.again(1), false);
        x.days(1);
        x.offer(2, 5);
        x.mutes(0, 1);
        check.is("42: kept", x.keep(1), true);
        Check.year(x, "n9oc1x20ra1");
        check.is("43: again", x.again(1), true);
        check.is("43: day", x.count(1), 1);
        check.is("43: strike", x.count(2), 129);
        check.is("43: falls", x.count(3), 2);
        check.is("43: moods", x.count(4), 36);
        check.is("43: offers", x.count(5), 5);
        check.is("43: muted", x.at(0, 1), 8);
        check.is("43: said", x.at(2, 0), 2);
        check.is("15: again forgets", x.undo(), -1);
        x.days(3);
        check.is("43: once more", x.again(1), true);
        check.is("43: day", x.count(1), 1);
        check.is("42: 3", x.keep(3), false);
        check.is("42: below 0", x.keep(-1), false);
        check.is("43: 3", x.again(3), false);
        check.is("43: below 0", x.again(-1), false);
        check.is("43: nothing under 0", x.again(0), false);
        check.is("43: nothing under 2", x.again(2), false);
        check.is("42: kept", x.keep(2), true);
        Check.words(x, "");
        Check.words(x, "A");
        check.is("43: no words came", x.again(1), true);
        x.days(1);
        x.keep(1);
        x.days(1);
        x.again(1);
        check.is("42: kept anew", x.count(1), 2);
        Check.words(x, "ab");
        check.is("43: words came", x.again(1), false);
        check.is("43: words came", x.again(2), false);
        check.is("42: kept since", x.keep(2), true);
        check.is("43: kept since", x.again(2), true);
        Check.rule(x, "5");
        x.noticed(0, 1, 1);
        x.again(2);
        check.is("43: not the rule", x.letter(0, 5), 5);
        check.is("43: not what was noticed", x.count(8), 1);
    }

    private static void countAndRow() {
        SilentLetters x = Check.withWords(FOUR);
        x.days(1);
        x.offer(0, 4);
        x.offer(1, 5);
        x.noticed(0, 1, 1);
        Check.text(x, "abc");
        int[] due = {4, 1, 129, 2, 36, 9, 2, 8, 1, 3, 2, 3};
        for (int what = 0; what < due.length; what++) {
            check.is("44: count(" + what + ")", x.count(what), due[what]);
        }
        check.is("44: another", x.count(12), -100);
        check.is("44: another", x.count(-1), -100);
        check.is("44: another", x.count(Integer.MIN_VALUE), -100);
        check.is("45: row(0)", x.row(0), 2);
        check.is("45: row(1)", x.row(1), 1);
        check.noSuch("45: row(2)", () -> x.row(2));
        check.noSuch("45: row(-1)", () -> x.row(-1));
        check.noSuch("45: row of the most", () -> x.row(Integer.MAX_VALUE));
        check.noSuch("45: row of the least", () -> x.row(Integer.MIN_VALUE));
    }

    private static void refusedCallsLeaveTheRow() {
        SilentLetters x = Check.withWords("ab;cd");
        x.looks(1, 0);
        int[] answers = {x.days(61), x.looks(2, 0), x.kinds(-1), x.apart(0, 0), x.chain(0, 1, 9), x.ahead(100),
            x.when(8), x.shared(0, 2), x.must(4), x.joins(1, 1), x.parts(0, 9), x.buys(-1), x.power(9),
            x.misread(0, 1, 11), x.rests(99), x.years(0, 61), x.noticed(0, 1, 3)};
        for (int i = 0; i < answers.length; i++) {
            check.is("2: refused call " + i, answers[i], -1);
        }
        int[] without = {x.chain(0, 1, 1), x.falls(), x.when(0), x.crossest(), x.joins(0, 1)};
        for (int i = 0; i < without.length; i++) {
            check.is("2: call " + i + " without a row", without[i], -2);
        }
        check.is("2: the ROW stays", Check.row(x), "2 3");
    }
}
