import java.util.NoSuchElementException;
import java.util.function.LongSupplier;

/** Counts the answers that are not as due. */
final class Check {
    private int wrong;
    private int looked;

    /** Makes THE TEXT of an object to be just this one (80 signs at most). */
    static void text(SilentLetters x, String text) {
        x.end(0);
        for (int i = 0; i < text.length(); i += 4) {
            int v = 0;
            for (int j = i; j < i + 4; j++) {
                v = v << 8 | (j < text.length() ? text.charAt(j) & 255 : 0);
            }
            x.sign(v);
        }
        x.end(text.length());
    }

    static SilentLetters withWords(String text) {
        SilentLetters x = new SilentLetters();
        text(x, text);
        x.words();
        return x;
    }

    static int words(SilentLetters x, String text) {
        text(x, text);
        return x.words();
    }

    static int rule(SilentLetters x, String text) {
        text(x, text);
        return x.rule();
    }

    static int law(SilentLetters x, String text) {
        text(x, text);
        return x.law();
    }

    static int year(SilentLetters x, String text) {
        text(x, text);
        return x.year();
    }

    static String row(SilentLetters x) {
        if (x.count(10) < 0) {
            return "numbers below 0";
        }
        StringBuilder told = new StringBuilder();
        for (int i = 0; i < x.count(10); i++) {
            told.append(i == 0 ? "" : " ").append(x.row(i));
        }
        return told.toString();
    }

    void is(String what, long got, long due) {
        looked++;
        if (got != due) {
            wrong++;
            System.out.println(what + " answered " + got + ", due is " + due);
        }
    }

    void is(String what, boolean got, boolean due) {
        is(what, got ? 1 : 0, due ? 1 : 0);
    }

    void is(String what, String got, String due) {
        looked++;
        if (!got.equals(due)) {
            wrong++;
            System.out.println(what + " answered [" + got + "], due is [" + due + "]");
        }
    }

    /** An answer and the ROW with it. */
    void tells(String what, SilentLetters x, long got, long due, String row) {
        is(what, got, due);
        is("the ROW of " + what, row(x), row);
    }

    /** All that can be seen by calls that change nothing, but the ROW and THE TEXT. */
    static String seen(SilentLetters x) {
        StringBuilder all = new StringBuilder();
        for (int what = 0; what <= 9; what++) {
            all.append(x.count(what)).append(' ');
        }
        for (int word = 0; word < x.count(0); word++) {
            for (int i = 0; i < x.word(word, 0); i++) {
                all.append(i == 0 ? '/' : '.').append(x.at(word, i));
            }
        }
        for (int letter = 0; letter < 8; letter++) {
            for (int what = 0; what <= 5; what++) {
                all.append(what == 0 ? '|' : ',').append(x.letter(letter, what));
            }
        }
        return all.toString();
    }

    /** A refused call, or another one that answers and leaves all as it was: the ROW and THE TEXT, too. */
    void leaves(String what, SilentLetters x, LongSupplier call, long due) {
        int signs = x.count(11);
        leavesButText(what, x, call, due);
        is("signs of THE TEXT behind " + what, x.count(11), signs);
    }

    /** A call that reads THE TEXT, empties it and leaves all else as it was. */
    void emptiesText(String what, SilentLetters x, LongSupplier call, long due) {
        leavesButText(what, x, call, due);
        is("signs of THE TEXT behind " + what, x.count(11), 0);
    }

    private void leavesButText(String what, SilentLetters x, LongSupplier call, long due) {
        String before = seen(x);
        String row = row(x);
        is(what, call.getAsLong(), due);
        is("what " + what + " leaves", seen(x), before);
        is("the ROW that " + what + " leaves", row(x), row);
    }

    /** A question: it tells a ROW and changes nothing else. */
    void asks(String what, SilentLetters x, LongSupplier call, long due, String row) {
        String before = seen(x);
        int signs = x.count(11);
        is(what, call.getAsLong(), due);
        is("the ROW of " + what, row(x), row);
        is("what the question " + what + " leaves", seen(x), before);
        is("signs of THE TEXT behind " + what, x.count(11), signs);
    }

    /** A call that throws NoSuchElementException and leaves all as it was. */
    void noSuchLeaves(String what, SilentLetters x, LongSupplier call) {
        String before = seen(x);
        String row = row(x);
        int signs = x.count(11);
        noSuch(what, call);
        is("what " + what + " leaves", seen(x), before);
        is("the ROW that " + what + " leaves", row(x), row);
        is("signs of THE TEXT behind " + what, x.count(11), signs);
    }

    void noSuch(String what, LongSupplier call) {
        looked++;
        try {
            long got = call.getAsLong();
            wrong++;
            System.out.println(what + " answered " + got + ", due is NoSuchElementException");
        } catch (NoSuchElementException e) {
            // as due
        }
    }

    void end() {
        System.out.println(looked + " answers looked at, " + wrong + " not as due");
        if (wrong != 0) {
            System.exit(1);
        }
    }
}
