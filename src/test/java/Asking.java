import java.util.ArrayList;
import java.util.List;

/** What tests share: answers and what is due, the sentence of the document that they are of, and chests made in one line. */
abstract class Asking {
    static final int UNKNOWN = -1, OUTSIDE = -2, STATE = -3, FULL = -4, NO = -5, NONE = -6, SPENT = -7;

    /** A call, to be made on one chest or on several. */
    interface Call {
        long on(CountedChest x);
    }

    /** Where a sentence stands ("Terms", "Promise 7"), and its text. */
    record Sentence(String place, String text) {
    }

    static final List<Sentence> QUOTED = new ArrayList<>();
    private static int wrong = 0;
    private static int asked = 0;
    private static int askedAtSentence = 0;
    private static Sentence latest = null;

    /** The answers below are of this sentence. */
    static void of(String place, String text) {
        endSentence();
        latest = new Sentence(place, text);
        QUOTED.add(latest);
        askedAtSentence = asked;
    }

    /** A sentence that is quoted must be asked for. */
    static void endSentence() {
        if (latest != null && askedAtSentence == asked) {
            fault("no answer is looked at");
        }
        latest = null;
    }

    static void fault(String what) {
        wrong++;
        String at = latest == null ? "" : latest.place() + " \"" + latest.text() + "\": ";
        System.out.println(at + what);
    }

    static void due(String what, long got, long want) {
        asked++;
        if (got != want) {
            fault(what + " answered " + got + ", due is " + want);
        }
    }

    static void due(String what, String got, String want) {
        asked++;
        if (!got.equals(want)) {
            fault(what + " is " + got + ", due is " + want);
        }
    }

    /** Prints how it went; with a wrong answer the exit code is 1. */
    static void end() {
        endSentence();
        System.out.println(asked + " answers looked at, " + wrong + " are not as due");
        if (wrong != 0) {
            System.exit(1);
        }
    }

    // ---- chests in one line; WORDS and THE LINE are told as texts of the signs '0' to '3'

    static int bits(float f) {
        return Float.floatToRawIntBits(f);
    }

    static int[] prices(int... prices) {
        return prices;
    }

    static CountedChest chest(int[] prices, int... counts) {
        CountedChest x = new CountedChest();
        for (int p : prices) x.sign(p);
        for (int c : counts) x.thing(bits(c));
        return x;
    }

    static CountedChest alike(int[] prices, int things) {
        CountedChest x = chest(prices);
        for (int t = 0; t < things; t++) x.thing(bits(1));
        return x;
    }

    static CountedChest tell(CountedChest x, String... words) {
        x.own();
        for (int t = 0; t < words.length; t++) {
            for (char s : words[t].toCharArray()) x.add(t, s - '0');
        }
        return x;
    }

    static CountedChest told(int[] prices, String... words) {
        return tell(alike(prices, words.length), words);
    }

    static CountedChest line(CountedChest x, String signs) {
        x.wipe();
        for (char s : signs.toCharArray()) x.put(s - '0');
        return x;
    }

    static String lineOf(CountedChest x) {
        StringBuilder b = new StringBuilder();
        for (int i = 0, s = x.line(0); s != NONE; i++, s = x.line(i)) b.append(s);
        return b.toString();
    }

    static String wordOf(CountedChest x, int thing) {
        StringBuilder b = new StringBuilder();
        int size = x.length(thing);
        for (int k = 0; k < size; k++) b.append(x.word(thing, k));
        return b.toString();
    }

    static String wordsOf(CountedChest x) {
        StringBuilder b = new StringBuilder();
        int things = x.told(1);
        for (int t = 0; t < things; t++) b.append(t > 0 ? " " : "").append(wordOf(x, t));
        return b.toString();
    }

    static String itemsOf(CountedChest x) {
        StringBuilder b = new StringBuilder();
        for (int k = 0, t = x.item(0); t != NONE; k++, t = x.item(k)) b.append(k > 0 ? " " : "").append(t);
        return b.toString();
    }

    static String stepOf(CountedChest x) {
        StringBuilder b = new StringBuilder();
        for (int k = 0, s = x.stepSign(0); s != NONE; k++, s = x.stepSign(k)) b.append(s);
        return b.toString();
    }

    static String brokenOf(CountedChest x) {
        return x.broken(0) + " " + x.broken(1);
    }
}
