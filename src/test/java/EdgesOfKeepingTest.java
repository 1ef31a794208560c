import java.util.function.LongSupplier;

/** Edges of the ROW and THE TEXT (terms 2), and those that the promises 42 to 45 name: keep, again, count, row. */
public final class EdgesOfKeepingTest {
    private static final int LEAST = Integer.MIN_VALUE;
    private static final int GREATEST = Integer.MAX_VALUE;
    // H and A are unsaid once each; by h words 0 and 1 are one, by a words 2 and 3.
    private static final String FOUR = "Hab;ab;cAb;cb";

    private static final Check check = new Check();

    public static void main(String[] args) {
        rowIsEmptyAtFirst();
        rowIsOfTheLatestTelling();
        callsThatTellNoRowLeaveIt();
        minusTwoLeavesTheRow();
        refusedCallsLeaveTheRow();
        nothingWithoutEmptiesTheRow();
        questionsChangeNothing();
        readingCallsEmptyTheText();
        otherCallsLeaveTheText();

        keepZeroToTwo();
        keepLeavesAll();
        againNothingKept();
        againZeroToTwo();
        againAsItWasKept();
        againMoreThanOnce();
        againLeavesTheRest();
        againWordsCameSince();
        keptAnew();
        keptWithoutWords();
        countZeroToEleven();
        countAtTheLeast();
        countAtTheGreatest();
        rowNumbers();
        rowOfNine();
        check.end();
    }

    // ---- terms 2: the ROW, THE TEXT

    private static void rowIsEmptyAtFirst() {
        SilentLetters x = new SilentLetters();
        check.is("2: no numbers", x.count(10), 0);
        for (int i : new int[] {0, 1, 8, -1, LEAST, GREATEST}) {
            check.noSuchLeaves("45: row(" + i + ") of none", x, () -> x.row(i));
        }
    }

    private static void rowIsOfTheLatestTelling() {
        SilentLetters x = Check.withWords(FOUR);
        x.law();
        check.is("2: nine numbers", x.count(10), 9);
        x.must(0);
        check.is("2: one number", Check.row(x), "0");
        check.noSuchLeaves("45: the second of the nine is gone", x, () -> x.row(1));
        x.looks(0, 0);
        check.is("2: three numbers", Check.row(x), "7 0 1");
        x.days(0);
        check.is("2: two numbers", Check.row(x), "0 0");
        check.noSuchLeaves("45: the third of the three is gone", x, () -> x.row(2));
    }

    private static SilentLetters withRow() {
        SilentLetters x = Check.withWords(FOUR);
        x.days(1);
        x.keep(0);
        x.looks(0, 0);
        return x;
    }

    private static void callsThatTellNoRowLeaveIt() {
        SilentLetters x = withRow();
        x.sign(0);
        x.end(0);
        x.words();
        Check.words(x, "b");
        Check.rule(x, "m");
        x.word(0, 0);
        x.at(0, 0);
        x.letter(0, 0);
        x.sheet(0, 8, 5, 0);
        x.sheet(0, -1, 5, 0);
        x.sheet(3, 0, 0, 0);
        x.offer(0, 1);
        x.stirs(0, 1);
        x.mutes(0, 0);
        x.undo();
        x.noticed(0, 1, 1);
        x.forget();
        x.game(5, 2, 2);
        x.keep(1);
        x.again(1);
        x.count(0);
        x.row(0);
        check.is("2: told last by a call that says so", Check.row(x), "7 0 1");
    }

    private static void minusTwoLeavesTheRow() {
        SilentLetters x = Check.withWords("ab;ba");
        x.looks(1, 0);
        check.leaves("19: chain", x, () -> x.chain(0, 1, 0), -2);
        check.leaves("21: falls", x, x::falls, -2);
        check.leaves("22: when", x, () -> x.when(0), -2);
        check.leaves("24: crossest", x, x::crossest, -2);
        check.leaves("27: joins", x, () -> x.joins(0, 1), -2);
        check.leaves("38: game", x, () -> x.game(0, 2, 2), -2);
        check.leaves("9: sheet", x, () -> x.sheet(0, -1, 0, 0), -2);
        check.leaves("12: stirs", x, () -> x.stirs(0, -9), -2);
        check.leaves("12: stirs", x, () -> x.stirs(0, 9), -3);
        x.mutes(0, 0);
        check.leaves("13: mutes", x, () -> x.mutes(0, 1), -2);
        Check.rule(x, "1");
        check.leaves("34: calms", x, x::calms, -2);
        x.noticed(0, 1, 1);
        check.leaves("33: next", x, x::next, -2);
        SilentLetters y = Check.withWords("ab;ab");
        y.looks(1, 0);
        check.leaves("29: parts", y, () -> y.parts(0, 1), -2);
    }

    private static void refusedCallsLeaveTheRow() {
        SilentLetters x = withRow();
        LongSupplier[] refused = {
            () -> x.sheet(4, 0, 0, 0), () -> x.days(61), () -> x.offer(8, 0), () -> x.stirs(8, 1), () -> x.mutes(4, 0),
            () -> x.looks(4, 0), () -> x.kinds(256), () -> x.apart(0, 0), () -> x.chain(0, 1, 9), () -> x.ahead(100),
            () -> x.when(8), () -> x.shared(0, 4), () -> x.must(16), () -> x.joins(1, 1), () -> x.parts(0, 4),
            () -> x.noticed(0, 1, 2), () -> x.buys(100), () -> x.power(8), () -> x.misread(0, 1, 11),
            () -> x.game(61, 2, 2), () -> x.rests(21), () -> x.years(0, 61)
        };
        for (int i = 0; i < refused.length; i++) {
            check.leaves("2: refused call " + i, x, refused[i], -1);
        }
        check.leaves("2: refused end()", x, () -> x.end(1) ? 1 : 0, 0);
        check.leaves("2: refused keep()", x, () -> x.keep(3) ? 1 : 0, 0);
        check.leaves("2: refused again()", x, () -> x.again(1) ? 1 : 0, 0);
        check.noSuchLeaves("2: word()", x, () -> x.word(4, 0));
        check.noSuchLeaves("2: at()", x, () -> x.at(4, 0));
        check.noSuchLeaves("2: letter()", x, () -> x.letter(8, 0));
        check.noSuchLeaves("2: row()", x, () -> x.row(3));
    }

    private static void nothingWithoutEmptiesTheRow() {
        SilentLetters x = withRow();
        x.noticed(0, 1, 1);
        x.noticed(0, 1, 0);
        check.asks("32: none fits", x, x::fits, 0, "");
        x.looks(0, 0);
        check.asks("40: none rests", x, () -> x.rests(20), 0, "");
        SilentLetters none = new SilentLetters();
        none.days(0);
        check.asks("17: no words", none, () -> none.kinds(0), 0, "");
    }

    private static void questionsChangeNothing() {
        SilentLetters x = withRow();
        Check.text(x, "ab");
        LongSupplier[] questions = {
            () -> x.looks(0, 255), () -> x.kinds(255), () -> x.apart(0, 1), () -> x.chain(0, 1, 8), () -> x.ahead(99),
            x::falls, () -> x.when(7), () -> x.shared(0, 1), x::crossest, () -> x.must(15), x::most, () -> x.joins(0, 1),
            x::safe, () -> x.parts(0, 1), x::fits, x::next, x::calms, () -> x.buys(99), () -> x.power(7),
            () -> x.misread(0, 1, 5), () -> x.game(60, 2, 9), () -> x.rests(20), () -> x.years(5, 60)
        };
        String before = Check.seen(x);
        for (int i = 0; i < questions.length; i++) {
            check.is("2: question " + i + " is answered", questions[i].getAsLong() >= 0, true);
            check.is("2: what question " + i + " leaves", Check.seen(x), before);
            check.is("2: the text that question " + i + " leaves", x.count(11), 2);
        }
        check.is("15: the day can be undone yet", x.undo(), 0);
        check.is("15: and is", x.count(1), 0);
    }

    private static void readingCallsEmptyTheText() {
        SilentLetters x = Check.withWords(FOUR);
        String[] right = {"ab", "m", "n1", "m"};
        for (int call = 0; call < 4; call++) {
            int of = call;
            LongSupplier reads = () -> of == 0 ? x.words() : of == 1 ? x.rule() : of == 2 ? x.year() : x.law();
            Check.text(x, right[call]);
            check.is("2: reading call " + call, reads.getAsLong() >= 0, true);
            check.is("2: the text is empty", x.count(11), 0);
            Check.text(x, "?");
            check.is("2: refused reading call " + call, reads.getAsLong(), call == 3 ? -10000 : -1);
            check.is("2: the text is empty, too", x.count(11), 0);
            Check.text(x, "?".repeat(80));
            check.is("2: refused reading call " + call, reads.getAsLong(), call == 3 ? -10000 : -1);
            check.is("2: a full text is empty, too", x.count(11), 0);
        }
    }

    private static void otherCallsLeaveTheText() {
        SilentLetters x = withRow();
        Check.text(x, "Hd;d");
        LongSupplier[] others = {
            () -> x.word(0, 0), () -> x.at(0, 0), () -> x.letter(0, 0), () -> x.sheet(0, 8, 5, 0), () -> x.days(1),
            () -> x.offer(0, 1), () -> x.stirs(0, 1), () -> x.mutes(1, 0), x::undo, () -> x.noticed(0, 1, 1), x::forget,
            () -> x.keep(1) ? 1 : 0, () -> x.again(1) ? 1 : 0, () -> x.count(0), () -> x.row(0), () -> x.days(61),
            () -> x.sheet(4, 0, 0, 0), () -> x.years(1, 1), () -> x.end(5) ? 1 : 0, () -> x.end(4) ? 1 : 0
        };
        for (int i = 0; i < others.length; i++) {
            others[i].getAsLong();
            check.is("2: the text that call " + i + " leaves", x.count(11), 4);
        }
        check.is("4: the text is as it was", x.words(), 2);
        check.is("7: its first sign", x.at(4, 0), 15);
        check.is("7: its last sign", x.at(5, 0), 3);
    }

    // ---- 42, 43: keep, again

    private static void keepZeroToTwo() {
        SilentLetters x = Check.withWords(FOUR);
        x.looks(0, 0);
        for (int i : new int[] {-1, 3, 4, LEAST, GREATEST}) {
            check.leaves("42: keep(" + i + ")", x, () -> x.keep(i) ? 1 : 0, 0);
        }
        for (int i = 0; i <= 2; i++) {
            int number = i;
            check.leaves("43: none was kept by a refused one", x, () -> x.again(number) ? 1 : 0, 0);
        }
        for (int i = 0; i <= 2; i++) {
            int number = i;
            check.leaves("42: keep(" + i + ")", x, () -> x.keep(number) ? 1 : 0, 1);
        }
    }

    private static void keepLeavesAll() {
        SilentLetters x = withRow();
        Check.text(x, "abc");
        x.noticed(0, 1, 1);
        check.leaves("42: keep(0) once more", x, () -> x.keep(0) ? 1 : 0, 1);
        check.leaves("42: keep(1)", x, () -> x.keep(1) ? 1 : 0, 1);
        check.is("15: the day can be undone yet", x.undo(), 0);
    }

    private static void againNothingKept() {
        SilentLetters x = Check.withWords(FOUR);
        x.days(1);
        for (int i : new int[] {-1, 0, 1, 2, 3, LEAST, GREATEST}) {
            check.leaves("43: again(" + i + ")", x, () -> x.again(i) ? 1 : 0, 0);
        }
        x.keep(1);
        for (int i : new int[] {-1, 0, 2, 3}) {
            check.leaves("43: again(" + i + "), 1 is kept", x, () -> x.again(i) ? 1 : 0, 0);
        }
        check.is("43: again(1)", x.again(1), true);
    }

    private static void againZeroToTwo() {
        SilentLetters x = Check.withWords(FOUR);
        for (int i = 0; i <= 2; i++) {
            x.days(i + 1);
            x.offer(0, i + 1);
            x.keep(i);
        }
        int[] days = {1, 3, 6};
        for (int i : new int[] {1, 0, 2, 0, 1, 2}) {
            check.is("43: again(" + i + ")", x.again(i), true);
            check.is("43: its day", x.count(1), days[i]);
            check.is("43: its offer", x.letter(0, 1), i + 1);
        }
    }

    private static void againAsItWasKept() {
        SilentLetters x = Check.withWords(FOUR);
        Check.year(x, "n1oc5x01rb2");
        x.undo();
        Check.year(x, "n1oc5x01rb2");
        x.keep(2);
        String before = Check.seen(x);
        Check.year(x, "n9oc1oh9x00x01x21qb7");
        x.sheet(3, 0, 0, 0);
        check.is("43: again", x.again(2), true);
        int[] due = {4, 1, 129, 2, 38, 5, 3, 7, 0, 0};
        for (int what = 0; what < due.length; what++) {
            check.is("43: count(" + what + ") as it was", x.count(what), due[what]);
        }
        check.is("43: all else as it was", Check.seen(x).substring(Check.seen(x).indexOf('/')),
                before.substring(before.indexOf('/')));
    }

    private static void againMoreThanOnce() {
        SilentLetters x = Check.withWords(FOUR);
        x.keep(0);
        for (int i = 0; i < 20; i++) {
            x.days(3);
            check.is("43: again", x.again(0), true);
            check.is("43: day", x.count(1), 0);
            check.is("43: moods", x.count(4), 40);
        }
        x.days(1);
        check.is("15: undone", x.undo(), 0);
        check.is("15: as ahead of the day", x.count(4), 40);
    }

    private static void againLeavesTheRest() {
        SilentLetters x = Check.withWords(FOUR);
        x.keep(0);
        Check.rule(x, "5");
        x.noticed(0, 1, 1);
        x.looks(0, 0);
        Check.text(x, "abc");
        check.leaves("43: again", x, () -> x.again(0) ? 1 : 0, 1);
        check.is("43: the rule stays", x.letter(0, 5), 5);
        check.is("43: what was noticed stays", x.count(8), 1);
        check.is("43: what is kept stays", x.again(0), true);
    }

    private static void againWordsCameSince() {
        SilentLetters x = Check.withWords("Hab");
        x.days(1);
        for (int i = 0; i <= 2; i++) {
            x.keep(i);
        }
        x.words();
        check.is("43: an empty text brought none", x.again(0), true);
        Check.words(x, "ab;A");
        check.is("43: refused words brought none", x.again(1), true);
        Check.words(x, "ab");
        x.days(1);
        for (int i = 0; i <= 2; i++) {
            int number = i;
            check.leaves("43: words came since, again(" + i + ")", x, () -> x.again(number) ? 1 : 0, 0);
        }
        check.is("42: kept since", x.keep(1), true);
        check.leaves("43: not under 0", x, () -> x.again(0) ? 1 : 0, 0);
        check.is("43: under 1", x.again(1), true);
        check.leaves("43: not under 2", x, () -> x.again(2) ? 1 : 0, 0);
    }

    private static void keptAnew() {
        SilentLetters x = new SilentLetters();
        x.days(1);
        x.keep(0);
        x.days(1);
        x.keep(0);
        x.days(1);
        x.again(0);
        check.is("42: the latest under a number", x.count(1), 2);
    }

    private static void keptWithoutWords() {
        SilentLetters x = new SilentLetters();
        check.is("42: no words", x.keep(0), true);
        x.offer(0, 9);
        check.is("43: no words", x.again(0), true);
        check.is("43: as it was", x.count(5), 0);
        Check.words(x, "Ab");
        check.leaves("43: words came since", x, () -> x.again(0) ? 1 : 0, 0);
    }

    // ---- 44, 45: count, row

    private static void countZeroToEleven() {
        SilentLetters x = withRow();
        x.offer(0, 4);
        x.offer(1, 5);
        x.noticed(0, 1, 1);
        Check.text(x, "abcde");
        int[] due = {4, 1, 129, 2, 36, 9, 2, 8, 1, 3, 3, 5};
        for (int what = 0; what < due.length; what++) {
            int of = what;
            check.leaves("44: count(" + what + ")", x, () -> x.count(of), due[what]);
        }
        for (int what : new int[] {-1, 12, 13, -100, LEAST, GREATEST}) {
            check.leaves("44: count(" + what + ")", x, () -> x.count(what), -100);
        }
    }

    private static void countAtTheLeast() {
        SilentLetters x = new SilentLetters();
        x.sheet(3, 0, 0, 0);
        for (int what = 0; what <= 11; what++) {
            check.is("44: count(" + what + ") of nothing", x.count(what), 0);
        }
    }

    private static void countAtTheGreatest() {
        SilentLetters x = Check.withWords("aBBBBBBB;".repeat(7) + "aBBBBBBB");
        x.sheet(2, 8, 9, 0);
        for (int letter = 0; letter < 8; letter++) {
            x.offer(letter, 9);
        }
        for (int i = 0; i < 12; i++) {
            x.noticed(0, 7, 1);
            x.days(0);
        }
        for (int i = 0; i < 20; i++) {
            x.sign(0);
        }
        int[] due = {8, 0, 0, 0, 72, 72, 56, 8, 12, 15, 2, 80};
        for (int what = 0; what < due.length; what++) {
            check.is("44: count(" + what + ") of all", x.count(what), due[what]);
        }
        SilentLetters said = Check.withWords("abcdefgh;".repeat(7) + "abcdefgh");
        check.is("44: said ones", said.count(7), 64);
        check.is("44: unsaid ones", said.count(6), 0);
        SilentLetters all = Check.withWords("aBCDEFGH;bA");
        Check.rule(all, "1");
        all.days(1);
        check.is("44: all strike", all.count(2), 255);
    }

    private static void rowNumbers() {
        SilentLetters x = withRow();
        check.is("45: row(0)", x.row(0), 7);
        check.is("45: row(1)", x.row(1), 0);
        check.is("45: row(2)", x.row(2), 1);
        for (int i : new int[] {-1, 3, 8, 9, LEAST, GREATEST}) {
            check.noSuchLeaves("45: row(" + i + ") of 3", x, () -> x.row(i));
        }
    }

    private static void rowOfNine() {
        SilentLetters x = new SilentLetters();
        Check.law(x, "i");
        for (int i = 0; i <= 8; i++) {
            check.is("45: row(" + i + ")", x.row(i), i == 0 ? 0 : i - 1);
        }
        check.noSuchLeaves("45: row(9) of 9", x, () -> x.row(9));
        check.noSuchLeaves("45: row(-1) of 9", x, () -> x.row(-1));
    }
}
