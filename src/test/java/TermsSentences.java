import java.util.Arrays;

/** Each sentence of "What it is" and of the Terms that can be asked for, at its edges. */
final class TermsSentences extends Asking {
    private static final String TERMS = "Terms";

    static void all() {
        calls();
        signsAndThings();
        ranksAndRows();
        codes();
        freeAndBounded();
        ordered();
        ended();
        builtByLevels();
        builtBounded();
        builtOrdered();
        builtEnded();
        canon();
        hand();
        line();
        growing();
        places();
        constants();
    }

    private static String zeros(int size) {
        return "0".repeat(size);
    }

    /** Each count is above the sum of all but one of those ahead of it: the cheapest CODE is a chain. */
    private static int[] chain(int things) {
        int[] counts = new int[things];
        for (int t = 0; t < things; t++) counts[t] = t < 2 ? 1 : counts[t - 1] + counts[t - 2];
        return counts;
    }

    private static int longest(CountedChest x, int things) {
        int most = 0;
        for (int t = 0; t < things; t++) most = Math.max(most, x.length(t));
        return most;
    }

    private static void calls() {
        of("What it is", "An object is used for at most 512 calls after it has been made");
        CountedChest x = chest(prices(1, 1, 1, 1));
        for (int t = 0; t < 24; t++) x.thing(bits(1));
        x.grow();
        int sent = 0;
        while (x.calls() < 511) {
            if (x.send(5) == FULL) x.wipe();
            else sent++;
        }
        due("the 512th call", x.grown(5), sent + 1);
        x = chest(prices(1, 9), 1);
        while (x.calls() < 511) x.put(1);
        due("the 512th call", x.told(2), 200);
        x = chest(prices(1, 1), 3, 2);
        while (x.calls() < 511) x.build(x.calls() % 3, 1);
        due("the 512th call", x.build(3, 0), 7);
    }

    private static void signsAndThings() {
        of(TERMS, "SIGNS, 2 to 4, numbered from 0 on");
        CountedChest x = new CountedChest();
        x.thing(bits(1));
        due("the first", x.sign(1), 0);
        due("one is too few", x.own(), STATE);
        due("the second", x.sign(1), 1);
        due("two are enough", x.own(), 1);
        due("the third", x.sign(1), 2);
        due("the fourth", x.sign(1), 3);
        due("four are not too many", x.own(), 1);
        due("there is no fifth", x.sign(1), FULL);
        due("four", x.told(0), 4);
        due("SIGN 3", x.add(0, 3), 1);
        due("no SIGN 4", x.add(0, 4), UNKNOWN);

        of(TERMS, "have prices of 1 to 9");
        x = new CountedChest();
        due("below", x.sign(0), OUTSIDE);
        due("the least", x.sign(1), 0);
        due("the greatest", x.sign(9), 1);
        due("above", x.sign(10), OUTSIDE);
        due("its price", x.price(0), 1);
        due("its price", x.price(1), 9);

        of(TERMS, "THINGS, up to 24, numbered from 0 on");
        x = chest(prices(1, 1));
        for (int t = 0; t < 24; t++) due("thing", x.thing(bits(1)), t);
        due("the 25th", x.thing(bits(1)), FULL);
        due("24", x.told(1), 24);
        due("the last one", x.count(23, bits(2)), 1);
        due("none behind it", x.count(24, bits(2)), UNKNOWN);

        of(TERMS, "have counts, 1 to 1000000");
        x = new CountedChest();
        due("below", x.thing(bits(Math.nextDown(1f))), OUTSIDE);
        due("the least", x.thing(bits(1f)), 0);
        due("the greatest", x.thing(bits(1000000f)), 1);
        due("above", x.thing(bits(Math.nextUp(1000000f))), OUTSIDE);
        due("the least", x.count(0, bits(2)), 1);
        due("the greatest", x.count(1, bits(2)), 1000000);
    }

    private static void ranksAndRows() {
        of(TERMS, "RANKS: THINGS by counts, the greatest first, of like ones the lesser number");
        CountedChest x = alike(prices(1, 1), 24);
        for (int k = 0; k < 24; k++) due("of like ones", x.rank(k), k);
        x = chest(prices(1, 1));
        for (int t = 0; t < 24; t++) x.thing(bits(1 + t));
        for (int k = 0; k < 24; k++) due("the greatest first", x.rank(k), 23 - k);
        x = chest(prices(1, 1), 1, 1000000, 1, 999999, 1000000);
        int[] due = {1, 4, 3, 0, 2};
        for (int k = 0; k < 5; k++) due("rank", x.rank(k), due[k]);
        x = new CountedChest();
        x.thing(bits(2.1f));
        x.thing(bits(2.9f));
        due("whole numbers are like", x.rank(0), 0);
        x.count(1, bits(3f));
        due("the greater one", x.rank(0), 1);

        of(TERMS, "ROWS of SIGNS are ordered at the first place at which they differ by the SIGNS");
        x = told(prices(1, 1, 1, 1), "00003", "0001", "0002", "03", "1");
        due("in order", x.holds(2, 0), 1);
        tell(x, zeros(23) + "1", zeros(23) + "2", "01", "02", "1");
        due("the last place", x.holds(2, 0), 1);
        tell(x, zeros(23) + "2", zeros(23) + "1", "01", "02", "1");
        due("the last place", x.holds(2, 0), 0);
        tell(x, "0", "10", "2", "13", "3");
        due("the first place", x.holds(2, 0), 0);
        due("these two", brokenOf(x), "2 3");

        of(TERMS, "the beginning of another one is ahead of it");
        x = told(prices(1, 1), "0", "01");
        due("not FREE, so not ORDERED", x.holds(2, 0), 0);
        tell(x, "01", "0");
        due("nor the other way round", x.holds(2, 0), 0);

        of(TERMS, "The PRICE of a ROW is that of its SIGNS together");
        x = told(prices(1, 9, 5, 2), "");
        due("the empty one", x.cost(), 0);
        String word = "013213";
        int[] sums = {1, 10, 12, 17, 26, 28};
        for (int k = 0; k < word.length(); k++) {
            x.add(0, word.charAt(k) - '0');
            due("so far", x.cost(), sums[k]);
        }
        x = told(prices(9, 9), "1".repeat(24));
        due("the dearest", x.cost(), 216);
    }

    private static void codes() {
        of(TERMS, "A CODE has a WORD, a ROW of up to 24 SIGNS, for each THING");
        CountedChest x = told(prices(1, 1), "1".repeat(23), "");
        due("the 24th", x.add(0, 0), 24);
        due("the 25th", x.add(0, 0), FULL);
        due("24", wordOf(x, 0), "1".repeat(23) + "0");
        due("each has one", x.length(1), 0);
        x = alike(prices(1, 1), 24);
        due("of 1 to 24", x.build(3, 0), 300);
        due("24 SIGNS are built", x.length(23), 24);
        x = chest(prices(1, 1), chain(24));
        x.build(0, 0);
        due("23 SIGNS are built", x.length(0), 23);
        due("one SIGN", x.length(23), 1);

        of(TERMS, "Its COST is the sum of counts by their WORDS' PRICES (by the counts as they are)");
        x = chest(prices(9, 9), 1000000, 1);
        tell(x, zeros(24), zeros(24));
        due("as they are", x.cost(), 216L * 1000001);
        x.count(1, bits(1000000));
        due("as they are now", x.cost(), 216L * 2000000);
        x.count(0, bits(1));
        due("as they are now", x.cost(), 216L * 1000001);
        int[] most = new int[24];
        Arrays.fill(most, 1000000);
        x = chest(prices(9, 9), most);
        due("more than an int has", x.build(3, 1), 9L * 1000000 * 300);
    }

    private static void freeAndBounded() {
        of(TERMS, "0 FREE: no WORD is empty");
        CountedChest x = told(prices(1, 1), "");
        due("an empty one alone", x.holds(0, 0), 0);
        due("by itself", brokenOf(x), "0 -6");
        tell(x, "0");
        due("one SIGN", x.holds(0, 0), 1);

        of(TERMS, "none the beginning of another one, or the same");
        x = told(prices(1, 1), zeros(24), zeros(23));
        due("the beginning", x.holds(0, 0), 0);
        due("these", brokenOf(x), "0 1");
        x.add(1, 0);
        due("the same", x.holds(0, 0), 0);
        tell(x, zeros(24), zeros(23) + "1");
        due("at the last place another one", x.holds(0, 0), 1);
        tell(x, "0", "0" + zeros(23));
        due("the beginning", x.holds(0, 0), 0);
        tell(x, "0", "1" + zeros(23));
        due("at the first place another one", x.holds(0, 0), 1);

        of(TERMS, "1 BOUNDED: FREE, and none is longer than x");
        tell(x, "0", "11");
        due("as long", x.holds(1, 2), 1);
        due("longer", x.holds(1, 1), 0);
        due("the second", brokenOf(x), "1 -6");
        tell(x, zeros(24), "1");
        due("24", x.holds(1, 24), 1);
        due("above 23", x.holds(1, 23), 0);
        due("the first", brokenOf(x), "0 -6");
        tell(x, "0", "00");
        due("not FREE", x.holds(1, 24), 0);
        due("these", brokenOf(x), "0 1");
    }

    private static void ordered() {
        of(TERMS, "2 ORDERED: FREE, and of any two THINGS that of the lesser number has the WORD that is ahead");
        CountedChest x = told(prices(1, 1, 1), "0", "1", "2");
        due("in order", x.holds(2, 0), 1);
        tell(x, "1", "0", "2");
        due("the first two", x.holds(2, 0), 0);
        due("these", brokenOf(x), "0 1");
        tell(x, "0", "2", "1");
        due("the last two", x.holds(2, 0), 0);
        due("these", brokenOf(x), "1 2");
        tell(x, "1", "2", "0");
        due("the first and the last", x.holds(2, 0), 0);
        due("these", brokenOf(x), "0 2");
        tell(x, "0", "1", "1");
        due("not FREE", x.holds(2, 0), 0);
        due("these", brokenOf(x), "1 2");
        x = told(prices(1, 1), "1");
        due("one alone", x.holds(2, 0), 1);
    }

    private static void ended() {
        of(TERMS, "3 ENDED: FREE, and each WORD has SIGN x at its end, and nowhere else");
        CountedChest x = told(prices(1, 1, 1), "1", "01");
        due("at the end", x.holds(3, 1), 1);
        due("of another SIGN", x.holds(3, 0), 0);
        tell(x, "1", "012");
        due("not at the end", x.holds(3, 1), 0);
        due("the second", brokenOf(x), "1 -6");
        tell(x, "1", "02");
        due("not at all", x.holds(3, 1), 0);
        tell(x, "01", "11");
        due("at the beginning, too", x.holds(3, 1), 0);
        due("the second", brokenOf(x), "1 -6");
        tell(x, "1", "0" + zeros(21) + "11");
        due("just ahead of the end, too", x.holds(3, 1), 0);
        tell(x, "1", zeros(23) + "1");
        due("24 SIGNS", x.holds(3, 1), 1);
        tell(x, "01", "01");
        due("not FREE", x.holds(3, 1), 0);
        due("these", brokenOf(x), "0 1");
    }

    private static void builtByLevels() {
        of(TERMS, "BUILT FREE, or BOUNDED: at LEVEL 0 the empty ROW is OPEN");
        CountedChest x = chest(prices(1, 1), 7);
        due("the least there is", x.build(0, 0), 7);
        due("behind the empty ROW", wordsOf(x), "0");

        of(TERMS, "At each LEVEL p, from 0 on, of the OPEN ROWS of PRICE p, in order, the first k become WORDS of the next k THINGS"
            + " by RANKS (the empty one does not)");
        x = chest(prices(3, 2, 1), 1, 1, 1);
        due("the cheapest first", x.build(0, 0), 6);
        due("by RANKS, not by SIGNS", wordsOf(x), "2 1 0");
        x = chest(prices(3, 3, 3), 1, 2, 2);
        due("like prices", x.build(0, 0), 15);
        due("in order, by RANKS", wordsOf(x), "2 0 1");
        x = chest(prices(3, 2), 4);
        due("one alone has no empty WORD", x.build(0, 0), 8);
        due("its WORD", wordsOf(x), "1");

        of(TERMS, "the next m are continued: by each SIGN behind them a ROW is OPEN at its own LEVEL; the others are left");
        x = alike(prices(1, 1, 1), 4);
        due("the third is continued", x.build(0, 0), 6);
        due("one ROW is left", wordsOf(x), "0 1 20 21");
        x = chest(prices(1, 3), 2, 1, 1);
        due("01 is at LEVEL 4, 1 at LEVEL 3", x.build(0, 0), 11);
        due("their WORDS", wordsOf(x), "00 1 01");
        x = chest(prices(1, 3), 9, 2, 1);
        due("0 is not continued", x.build(0, 0), 9 + 2 * 4 + 6);
        due("their WORDS", wordsOf(x), "0 10 11");

        of(TERMS, "It ends when each THING has its WORD");
        x = alike(prices(1, 1, 1, 1), 4);
        due("at LEVEL 1", x.build(0, 0), 4);
        due("their WORDS", wordsOf(x), "0 1 2 3");
        x.thing(bits(1));
        due("at LEVEL 2", x.build(0, 0), 7);
        due("their WORDS", wordsOf(x), "0 1 2 30 31");

        of(TERMS, "Of all ways one of the least COST counts; of several: at the first LEVEL at which they differ the greater k, of like"
            + " k's the lesser m");
        x = chest(prices(1, 1), 2, 2, 1, 1);
        due("two ways cost 12", x.build(0, 0), 12);
        due("a WORD at LEVEL 1", wordsOf(x), "0 10 110 111");
        x = chest(prices(1, 3), 3, 1, 1);
        due("00, 1, 01 cost as much", x.build(0, 0), 13);
        due("a WORD at LEVEL 1", wordsOf(x), "0 10 11");
        x = chest(prices(1, 2), 1, 1);
        due("00 costs as 1 does", x.build(0, 0), 3);
        due("a WORD at LEVEL 1", wordsOf(x), "0 1");
        x = alike(prices(1, 1), 3);
        due("one way", x.build(0, 0), 5);
        due("the second of two is continued", wordsOf(x), "0 10 11");

        of(TERMS, "(That of FREE is of all FREE CODES the least.)");
        x = chest(prices(1, 1), 8, 1, 9, 1, 7, 1, 9);
        long least = x.build(0, 0);
        due("BOUNDED", x.build(1, 4) >= least ? 1 : 0, 1);
        due("ORDERED", x.build(2, 0) > least ? 1 : 0, 1);
        due("ENDED", x.build(3, 0) > least ? 1 : 0, 1);
        due("with x to spare", x.build(1, 24), least);
    }

    private static void builtBounded() {
        of(TERMS, "(BOUNDED: no ROW of x SIGNS is continued.)");
        int[] counts = chain(24);
        CountedChest x = chest(prices(1, 1), counts);
        long free = x.build(0, 0);
        due("24", x.build(1, 24), free);
        due("23", x.build(1, 23), free);
        due("its longest", longest(x, 24), 23);
        due("22 costs more", x.build(1, 22) > free ? 1 : 0, 1);
        due("its longest", longest(x, 24), 22);
        due("5", x.build(1, 5) > free ? 1 : 0, 1);
        due("its longest", longest(x, 24), 5);
        due("16 ROWS are too few", x.build(1, 4), NO);
        for (int signs = 2; signs <= 4; signs++) {
            int[] ones = new int[signs];
            Arrays.fill(ones, 1);
            x = alike(ones, signs);
            due("a ROW for each", x.build(1, 1), signs);
            x.thing(bits(1));
            due("one ROW is missing", x.build(1, 1), NO);
            x = alike(ones, Math.min(24, signs * signs));
            due("ROWS of two", x.build(1, 2), 2L * signs * signs);
            x.thing(bits(1));
            due("one ROW is missing", x.build(1, 2), NO);
        }
        x = alike(prices(1, 1), 16);
        due("ROWS of four", x.build(1, 4), 64);
        due("ROWS of three", x.build(1, 3), NO);
        x = alike(prices(1, 1, 1), 24);
        due("27 ROWS for 24", x.build(1, 3), 71);
        due("9 ROWS for 24", x.build(1, 2), NO);
    }

    private static void builtOrdered() {
        of(TERMS, "ORDERED: a NODE of THINGS i to j (more than one) deals them, in order, to SIGNS, in order: to each some, or none, to"
            + " none all");
        CountedChest x = chest(prices(1, 9), 1, 1);
        due("two for two", x.build(2, 0), 10);
        due("to none all", wordsOf(x), "0 1");
        x = chest(prices(9, 1), 1, 1, 1);
        due("in order", x.build(2, 0), 21);
        due("one ahead, two behind", wordsOf(x), "0 10 11");
        x = chest(prices(9, 1, 1, 9), 1, 1);
        due("to some none", x.build(2, 0), 2);
        due("their WORDS", wordsOf(x), "1 2");

        of(TERMS, "one alone has its WORD's end there, several are a NODE behind that SIGN");
        x = chest(prices(1, 1), 9, 1, 1, 9);
        due("two in the midst", x.build(2, 0), 9 + 2 * 9 + 6);
        due("a NODE behind a NODE", wordsOf(x), "0 100 101 11");
        int[] counts = chain(24);
        x = chest(prices(1, 1), counts);
        x.build(2, 0);
        due("as deep as it can be", x.length(0), 23);
        due("as deep as it can be", x.length(1), 23);
        due("the last", x.length(23), 1);

        of(TERMS, "A THING that is the only one has the SIGN of the least price (of several the first one) as its WORD");
        int[][] prices = {{5, 5}, {5, 4, 4}, {9, 9, 9, 8}, {1, 2}, {3, 1, 2, 1}};
        String[] words = {"0", "1", "3", "0", "1"};
        for (int i = 0; i < words.length; i++) {
            x = chest(prices[i], 2);
            due("its COST", x.build(2, 0), 2L * prices[i][words[i].charAt(0) - '0']);
            due("its WORD", wordsOf(x), words[i]);
        }

        of(TERMS, "Of all ways one of the least COST counts; of several, at the NODE of all THINGS first, from SIGN 0 on, the lesser"
            + " number of THINGS");
        x = chest(prices(2, 2, 2), 1, 1);
        due("of three ways", x.build(2, 0), 4);
        due("none for SIGN 0", wordsOf(x), "1 2");
        x = chest(prices(1, 2, 2), 1, 1);
        due("of two ways", x.build(2, 0), 3);
        due("none for SIGN 1", wordsOf(x), "0 2");
        x = chest(prices(1, 1), 1, 1, 1);
        due("of two ways", x.build(2, 0), 5);
        due("one for SIGN 0", wordsOf(x), "0 10 11");

        of(TERMS, "then likewise in the NODES behind its SIGNS, each by itself");
        x = chest(prices(1, 1), 1, 1, 1, 1, 1, 1);
        due("six", x.build(2, 0), 16);
        due("two and four, then two and two", wordsOf(x), "00 01 100 101 110 111");
        x.thing(bits(1));
        due("seven", x.build(2, 0), 20);
        due("three and four, one and two first", wordsOf(x), "00 010 011 100 101 110 111");
    }

    private static void builtEnded() {
        of(TERMS, "ENDED: of all ROWS without SIGN x (the empty one, too) those of the least PRICES, of like ones in order; with x behind"
            + " them these are the WORDS, for THINGS by RANKS");
        CountedChest x = chest(prices(4, 1), 6);
        due("one alone", x.build(3, 0), 24);
        due("the empty ROW, and x", wordsOf(x), "0");
        x = alike(prices(1, 1, 1), 7);
        due("like prices", x.build(3, 0), 1 + 2 * 2 + 4 * 3);
        due("in order", wordsOf(x), "0 10 20 110 120 210 220");
        due("ended by 1", x.build(3, 1), 1 + 2 * 2 + 4 * 3);
        due("in order", wordsOf(x), "1 01 21 001 021 201 221");
        due("ended by 2", x.build(3, 2), 1 + 2 * 2 + 4 * 3);
        due("in order", wordsOf(x), "2 02 12 002 012 102 112");
        x = chest(prices(1, 2, 1), 1, 2, 3, 4, 5, 6, 7);
        due("unlike prices", x.build(3, 0), 7 + 6 * 2 + 5 * 3 + 4 * 3 + 3 * 4 + 2 * 4 + 4);
        due("by RANKS", wordsOf(x), "2220 210 120 220 10 20 0");
        x = alike(prices(1, 1), 24);
        x.build(3, 1);
        due("the last one", wordOf(x, 23), zeros(23) + "1");
        x = chest(prices(9, 1), 2, 1);
        due("the price of x does not choose", x.build(3, 0), 2 * 9 + 10);
        due("their WORDS", wordsOf(x), "0 10");
        x = alike(prices(3, 9, 9), 24);
        x.build(3, 0);
        due("the 24th: 15 shorter ones, 8 of four SIGNS that are ahead", wordOf(x, 23), "21110");
    }

    private static void canon() {
        of(TERMS, "CANON: by the lengths of WORDS alone: THINGS by these, the shorter first, of like ones by numbers");
        CountedChest x = told(prices(1, 1), "111", "1", "111", "11");
        due("canon()", x.canon(), 1);
        due("the shorter first", wordsOf(x), "110 0 111 10");
        tell(x, "11", "11", "11", "11");
        due("canon()", x.canon(), 1);
        due("by numbers", wordsOf(x), "00 01 10 11");

        of(TERMS, "each has the first ROW in order, of its length, that is behind the one ahead of it, and does not begin with it");
        x = told(prices(1, 1, 1), "2");
        due("canon()", x.canon(), 1);
        due("the first of all", wordsOf(x), "0");
        tell(x, "2".repeat(24));
        due("canon()", x.canon(), 1);
        due("the first of 24", wordsOf(x), zeros(24));
        x = told(prices(1, 1, 1), "2", "22", "22", "22", "222");
        due("canon()", x.canon(), 1);
        due("one SIGN further", wordsOf(x), "0 10 11 12 200");
        x = told(prices(1, 1), "1", "1".repeat(24), "1".repeat(24));
        due("canon()", x.canon(), 1);
        due("at the last place", wordsOf(x), "0 1" + zeros(23) + " 1" + zeros(22) + "1");
        x = told(prices(1, 1), "00", "00", "00", "0000");
        due("canon()", x.canon(), 1);
        due("not behind itself", wordsOf(x), "00 01 10 1100");
    }

    private static void hand() {
        of(TERMS, "THE CODE AT HAND is the latest one that was built, told, or taken back");
        CountedChest x = chest(prices(1, 1), 1, 2);
        due("none", x.told(3), 0);
        x.build(0, 0);
        due("built", wordsOf(x), "1 0");
        x.keep(0);
        x.build(2, 0);
        due("built", wordsOf(x), "0 1");
        tell(x, "11", "10");
        due("told", wordsOf(x), "11 10");
        x.back(0);
        due("taken back", wordsOf(x), "1 0");
        x.build(3, 1);
        due("built", wordsOf(x), "01 1");
        due("refused", x.build(1, 0), OUTSIDE);
        due("it stays", wordsOf(x), "01 1");
    }

    private static void line() {
        of(TERMS, "THE LINE has up to 200 SIGNS");
        CountedChest x = chest(prices(1, 1), 1);
        for (int k = 1; k <= 200; k++) x.put(k & 1);
        due("200", x.told(2), 200);
        due("no more", x.put(0), FULL);
        due("the last one", x.line(199), 0);
        due("none behind it", x.line(200), NONE);

        of(TERMS, "It is READ from its beginning: WORD by WORD");
        x = told(prices(1, 1), "0", "10", "11");
        line(x, "1011010");
        due("read()", x.read(), 4);
        due("the THINGS", itemsOf(x), "1 2 0 1");
        due("from its beginning again", x.read(), 4);
        line(x, "");
        due("an empty LINE", x.read(), 0);

        of(TERMS, "Where no WORD goes on with a SIGN, that is a FAULT at its place");
        x = told(prices(1, 1, 1), "00", "01", "1");
        line(x, "2");
        due("the first place", x.read(), -100);
        line(x, "02");
        due("within a WORD", x.read(), -101);
        line(x, "1012");
        due("behind two WORDS", x.read(), -103);
        tell(x, zeros(23) + "1", "1", "20");
        line(x, zeros(24));
        due("at the last SIGN of a WORD", x.read(), -123);
        for (int k = 24; k < 199; k++) x.put(1);
        x.wipe();
        for (int k = 0; k < 199; k++) x.put(1);
        x.put(2);
        due("the end of a full LINE", x.read(), -300);
        due("199 ahead of it", x.item(198), 1);
        due("no more", x.item(199), NONE);

        of(TERMS, "where THE LINE ends within a WORD, at its length");
        line(x, "0");
        due("one SIGN", x.read(), -101);
        line(x, "1" + zeros(23));
        due("all but one SIGN", x.read(), -124);
        x.put(1);
        due("all", x.read(), 2);
        CountedChest y = told(prices(1, 1), "1", "01");
        for (int k = 0; k < 199; k++) y.put(1);
        y.put(0);
        due("a full LINE", y.read(), -300);
    }

    private static void growing() {
        of(TERMS, "GROWING: each THING has a count of its own, 1 at first");
        CountedChest x = chest(prices(1, 1), 1000000, 5, 1);
        x.grow();
        for (int t = 0; t < 3; t++) due("at first", x.grown(t), 1);
        due("the told one stays", x.count(0, bits(7)), 1000000);
        due("its own stays", x.grown(0), 1);

        of(TERMS, "THE CODE AT HAND is FREE by these");
        due("not by the told ones", wordsOf(x), "0 10 11");
        x.count(2, bits(999));
        due("nor by new ones", wordsOf(x), "0 10 11");

        of(TERMS, "behind each THING that is sent (or heard) its count is one more, and the CODE is BUILT anew");
        due("the WORD that it had", x.send(2), 2);
        due("one more", x.grown(2), 2);
        due("no other one", x.grown(0) + x.grown(1), 2);
        due("anew", wordsOf(x), "10 11 0");
        due("the new WORD", x.send(2), 3);
        due("the LINE", lineOf(x), "110");
        due("heard likewise", x.hear(), 2);
        due("the same THINGS", itemsOf(x), "2 2");
        due("read by the latest CODE", x.read(), 2);
        due("other THINGS", itemsOf(x), "1 2");
    }

    private static void places() {
        of(TERMS, "PLACES of a FREE CODE are all beginnings of WORDS but the WORDS: the empty one is HOME");
        CountedChest x = told(prices(1, 1), "0");
        due("HOME alone", x.told(4), 1);
        tell(x, zeros(24));
        due("a chain", x.told(4), 24);
        x = told(prices(1, 1), "00", "01", "1");
        due("beginnings are shared", x.told(4), 2);
        tell(x, zeros(24), zeros(23) + "1", "1");
        due("all but the last SIGN", x.told(4), 24);
        tell(x, zeros(24), "1" + zeros(23), "01");
        due("nothing but HOME is shared", x.told(4), 47);
        tell(x, "0", "00", "1");
        due("not FREE", x.told(4), 0);

        of(TERMS, "A SIGN leads from a PLACE to another one, or, where a WORD ends, HOME, or nowhere");
        tell(x, "0", "10", "110");
        due("0 leads HOME from each", x.step(), 1);
        due("two sets: 1 leads nowhere from 11", x.told(5), 2);
        tell(x, "01", "10", "11");
        due("0 leads from HOME to 0, from 0 nowhere", x.step(), NONE);
        due("all; 1 makes HOME and 1 of it; of that 0 makes HOME and 0", x.told(5), 3);

        of(TERMS, "A ROW is a STEP, if it leads from each PLACE HOME");
        x = told(prices(1, 1), "0", "1");
        due("the empty one, where HOME is alone", x.step(), 0);
        x = told(prices(1, 1), "0", "10", "11");
        due("from HOME and from 1", x.step(), 1);
        due("not the empty one", stepOf(x), "0");
        x = told(prices(1, 1), "1", "00", "010", "011");
        due("two SIGNS", x.step(), 2);
        due("11 is right from HOME, 0, and 01", stepOf(x), "11");
    }

    private static void constants() {
        of(TERMS, "What refused calls answer; NONE: there is none; SPENT: it was too long");
        int[] constants = {WordChest.UNKNOWN, WordChest.OUTSIDE, WordChest.STATE, WordChest.FULL, WordChest.NO, WordChest.NONE,
            WordChest.SPENT};
        for (int c = 0; c < 7; c++) due("constant " + c, constants[c], -1 - c);
        CountedChest x = new CountedChest();
        due("UNKNOWN", x.price(0), WordChest.UNKNOWN);
        due("OUTSIDE", x.sign(0), WordChest.OUTSIDE);
        due("STATE", x.own(), WordChest.STATE);
        due("NONE", x.line(0), WordChest.NONE);
        x = alike(prices(1, 1), 3);
        due("NO", x.build(1, 1), WordChest.NO);
        x.sign(1);
        x.sign(1);
        due("FULL", x.sign(1), WordChest.FULL);
    }
}
