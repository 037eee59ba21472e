/** Each promise of the document by itself: ordinary inputs, the edges that it names, wrong inputs. */
public final class PromisesTest extends Asking {
    private static void due(int promise, String what, long got, long want) {
        due("promise " + promise + ": " + what, got, want);
    }

    private static void due(int promise, String what, String got, String want) {
        due("promise " + promise + ": " + what, got, want);
    }

    private static void p1() {
        CountedChest x = new CountedChest();
        for (int what = 0; what <= 6; what++) due(1, "told(" + what + ")", x.told(what), 0);
        due(1, "line(0)", x.line(0), NONE);
        due(1, "item(0)", x.item(0), NONE);
        due(1, "broken(0)", x.broken(0), NONE);
        due(1, "broken(1)", x.broken(1), NONE);
        due(1, "stepSign(0)", x.stepSign(0), NONE);
        due(1, "cost()", x.cost(), STATE);
        due(1, "back(0)", x.back(0), UNKNOWN);
        due(1, "wipe()", x.wipe(), 0);
        due(1, "put(0)", x.put(0), UNKNOWN);
    }

    private static void p2() {
        CountedChest x = new CountedChest();
        int[] off = {0, -1, 10, Integer.MIN_VALUE, Integer.MAX_VALUE};
        for (int p : off) due(2, "sign(" + p + ")", x.sign(p), OUTSIDE);
        due(2, "sign(1)", x.sign(1), 0);
        due(2, "sign(9)", x.sign(9), 1);
        due(2, "thing", x.thing(bits(2)), 0);
        x.build(2, 0);
        x.keep(0);
        x.keep(7);
        x.write(0);
        due(2, "a refused sign", x.sign(10), OUTSIDE);
        due(2, "the code stays", x.told(3), 1);
        due(2, "the line stays", x.told(2), 1);
        due(2, "the chest stays", x.told(6), 2);
        due(2, "sign(5)", x.sign(5), 2);
        due(2, "the code is gone", x.told(3), 0);
        due(2, "the line is empty", x.told(2), 0);
        due(2, "the chest is empty", x.told(6), 0);
        due(2, "back(0)", x.back(0), UNKNOWN);
        due(2, "the things stay", x.told(1), 1);
        due(2, "sign(5)", x.sign(5), 3);
        x.own();
        due(2, "the fifth", x.sign(1), FULL);
        due(2, "the code stays", x.told(3), 1);
        due(2, "OUTSIDE is ahead of FULL", x.sign(0), OUTSIDE);
    }

    private static void p3() {
        CountedChest x = chest(prices(1, 1));
        float[] off = {0f, -0f, -1f, 0.99999994f, Float.NaN, Float.POSITIVE_INFINITY, Float.NEGATIVE_INFINITY,
            1000001f, Math.nextUp(1000000f), 1e30f, Float.MIN_VALUE, -5e5f};
        for (float f : off) due(3, "thing of " + f, x.thing(bits(f)), OUTSIDE);
        due(3, "another NaN", x.thing(-1), OUTSIDE);
        due(3, "thing(1)", x.thing(1), OUTSIDE);
        float[] right = {1f, 1.9999999f, 2f, 999999.94f, 1000000f, 524288.5f, 3.75f};
        int[] whole = {1, 1, 2, 999999, 1000000, 524288, 3};
        for (int t = 0; t < right.length; t++) due(3, "thing of " + right[t], x.thing(bits(right[t])), t);
        for (int t = 0; t < right.length; t++) due(3, "its count", x.count(t, bits(1)), whole[t]);
        x.own();
        x.keep(2);
        x.put(1);
        due(3, "a refused thing", x.thing(0), OUTSIDE);
        due(3, "the code stays", x.told(3), 1);
        due(3, "thing", x.thing(bits(4)), 7);
        due(3, "the code is gone", x.told(3), 0);
        due(3, "add", x.add(0, 0), STATE);
        due(3, "the chest stays", x.told(6), 1);
        due(3, "the line stays", x.told(2), 1);
        for (int t = 8; t < 24; t++) due(3, "thing", x.thing(bits(1)), t);
        x.own();
        due(3, "the 25th", x.thing(bits(1)), FULL);
        due(3, "the code stays", x.told(3), 1);
        due(3, "OUTSIDE is ahead of FULL", x.thing(0), OUTSIDE);
    }

    private static void p4() {
        CountedChest x = chest(prices(1, 1), 5, 3);
        x.build(0, 0);
        due(4, "count", x.count(0, bits(7.5f)), 5);
        due(4, "count", x.count(0, bits(2f)), 7);
        due(4, "count", x.count(1, bits(1000000f)), 3);
        due(4, "the code stays", x.told(3), 1);
        due(4, "cost by the new counts", x.cost(), 1000002);
        due(4, "rank(0)", x.rank(0), 1);
        due(4, "no thing", x.count(2, bits(1)), UNKNOWN);
        due(4, "no thing", x.count(-1, bits(1)), UNKNOWN);
        due(4, "UNKNOWN is ahead", x.count(2, 0), UNKNOWN);
        due(4, "below 1", x.count(1, bits(0.5f)), OUTSIDE);
        due(4, "above", x.count(1, bits(1000001f)), OUTSIDE);
        due(4, "no number", x.count(1, bits(Float.NaN)), OUTSIDE);
        due(4, "it had", x.count(1, bits(1)), 1000000);
    }

    private static void p5free() {
        CountedChest x = chest(prices(1, 1), 5, 2, 1, 1, 1);
        due(5, "build(0, 0)", x.build(0, 0), 20);
        due(5, "its words", wordsOf(x), "0 10 110 1110 1111");
        due(5, "x is as told", x.build(0, -77), 20);
        x = chest(prices(4, 4), 1, 2, 1, 2);
        due(5, "of two ways the greater k first", x.build(0, 0), 48);
        due(5, "its words by ranks", wordsOf(x), "110 0 111 10");
        x = chest(prices(1, 1), 1, 1, 1, 1);
        due(5, "four alike", x.build(0, 0), 8);
        due(5, "their words", wordsOf(x), "00 01 10 11");
        x = chest(prices(1, 2), 1, 1, 1);
        due(5, "unlike prices", x.build(0, 0), 7);
        due(5, "their words", wordsOf(x), "00 1 01");
        x = chest(prices(2, 1), 1, 3);
        due(5, "two", x.build(0, 0), 5);
        due(5, "their words", wordsOf(x), "0 1");
        x = chest(prices(3, 1, 1), 9);
        due(5, "one alone", x.build(0, 0), 9);
        due(5, "its word", wordsOf(x), "1");
        x = chest(prices(9, 9, 9, 9), 1, 1, 1, 1, 1);
        due(5, "like prices above 3", x.build(0, 0), 63);
        due(5, "their words", wordsOf(x), "0 1 2 30 31");
        int[] halves = new int[20];
        for (int t = 0; t < 20; t++) halves[t] = 1 << t;
        x = chest(prices(1, 1), halves);
        long cost = 0;
        for (int t = 0; t < 20; t++) cost += (long) halves[t] * (t == 0 ? 19 : 20 - t);
        due(5, "a long chain", x.build(0, 0), cost);
        due(5, "its longest word", x.length(0), 19);
    }

    private static void p5others() {
        CountedChest x = chest(prices(1, 1), 5, 2, 1, 1, 1);
        due(5, "build(1, 3)", x.build(1, 3), 20);
        due(5, "its words", wordsOf(x), "0 100 101 110 111");
        due(5, "build(1, 2)", x.build(1, 2), NO);
        due(5, "nothing has changed", wordsOf(x), "0 100 101 110 111");
        due(5, "build(1, 24)", x.build(1, 24), 20);
        due(5, "its words", wordsOf(x), "0 10 110 1110 1111");
        x = alike(prices(1, 1, 1, 1), 17);
        due(5, "16 rows for 17 things", x.build(1, 2), NO);
        x = alike(prices(1, 1, 1, 1), 16);
        due(5, "16 rows for 16 things", x.build(1, 2), 32);
        x = chest(prices(1, 1), 1, 1, 1);
        due(5, "build(2, 0)", x.build(2, 0), 5);
        due(5, "the lesser number first", wordsOf(x), "0 10 11");
        x = chest(prices(1, 1, 1), 1, 1);
        due(5, "build(2, 0)", x.build(2, 0), 2);
        due(5, "none is less than one", wordsOf(x), "1 2");
        x = chest(prices(3, 2, 2), 6);
        due(5, "the only one", x.build(2, 0), 12);
        due(5, "its word", wordsOf(x), "1");
        x = chest(prices(1, 9), 1, 1000000);
        due(5, "ordered, dear", x.build(2, 9), 9000001);
        x = alike(prices(1, 3, 2), 8);
        due(5, "build(3, 0)", x.build(3, 0), 8 + 2 + 3 + 4 + 5 + 5 + 6 + 6);
        due(5, "its words", wordsOf(x), "0 20 10 220 120 210 110 2220");
        x = chest(prices(9, 9), 1, 7, 3);
        due(5, "ended by 1", x.build(3, 1), 9 * (7 + 2 * 3 + 3));
        due(5, "its words by ranks", wordsOf(x), "001 1 01");
    }

    private static void p5refused() {
        CountedChest x = new CountedChest();
        due(5, "the kind is ahead of STATE", x.build(4, 0), OUTSIDE);
        due(5, "no sign", x.build(3, 0), OUTSIDE);
        due(5, "no signs", x.build(0, 0), STATE);
        x.sign(1);
        x.thing(bits(1));
        due(5, "one sign", x.build(2, 0), STATE);
        due(5, "one sign", x.build(3, 0), STATE);
        x = chest(prices(1, 1));
        due(5, "no things", x.build(0, 0), STATE);
        x.thing(bits(1));
        int[] kinds = {-1, 4, Integer.MIN_VALUE, Integer.MAX_VALUE};
        for (int kind : kinds) due(5, "kind " + kind, x.build(kind, 1), OUTSIDE);
        due(5, "x of 1", x.build(1, 0), OUTSIDE);
        due(5, "x of 1", x.build(1, 25), OUTSIDE);
        due(5, "x of 3", x.build(3, -1), OUTSIDE);
        due(5, "x of 3", x.build(3, 2), OUTSIDE);
        x = alike(prices(1, 4), 2);
        due(5, "unlike, above 3", x.build(0, 0), STATE);
        due(5, "a price not 1", x.build(1, 5), STATE);
        due(5, "ordered", x.build(2, 0), 5);
        x = alike(prices(1, 3), 8);
        due(5, "8 things", x.build(0, 0) > 0 ? 1 : 0, 1);
        x.thing(bits(1));
        due(5, "9 things", x.build(0, 0), STATE);
        x = alike(prices(2, 2), 3);
        due(5, "like prices, not 1", x.build(1, 5), STATE);
        due(5, "like prices", x.build(0, 5), 10);
    }

    private static void p6() {
        CountedChest x = chest(prices(1), 1);
        due(6, "one sign", x.own(), STATE);
        x = chest(prices(1, 1));
        due(6, "no things", x.own(), STATE);
        x = chest(prices(1, 7), 1, 2, 3);
        x.build(2, 0);
        due(6, "own()", x.own(), 3);
        due(6, "all are empty", wordsOf(x), "  ");
        due(6, "there is a code", x.told(3), 1);
        due(6, "its cost", x.cost(), 0);
        due(6, "its mean", x.mean(), 0);
        due(6, "add", x.add(2, 1), 1);
        due(6, "own() anew", x.own(), 3);
        due(6, "empty", x.length(2), 0);
    }

    private static void p7() {
        CountedChest x = chest(prices(1, 1, 1), 1, 1);
        due(7, "no code", x.add(0, 0), STATE);
        due(7, "UNKNOWN is ahead", x.add(2, 0), UNKNOWN);
        x.build(0, 0);
        due(7, "built", x.add(0, 0), STATE);
        x.own();
        for (int k = 1; k <= 24; k++) due(7, "add", x.add(1, k % 3), k);
        due(7, "the 25th", x.add(1, 0), FULL);
        due(7, "no thing", x.add(2, 0), UNKNOWN);
        due(7, "no thing", x.add(-1, 0), UNKNOWN);
        due(7, "no sign", x.add(0, 3), UNKNOWN);
        due(7, "no sign", x.add(1, -1), UNKNOWN);
        due(7, "the words", wordsOf(x), " 120120120120120120120120");
        x.keep(0);
        due(7, "kept, it goes on", x.add(0, 2), 1);
        x.back(0);
        due(7, "taken back", x.add(0, 2), STATE);
        x.own();
        x.build(2, 0);
        due(7, "built behind own()", x.add(0, 2), STATE);
        x.grow();
        due(7, "growing", x.add(0, 2), STATE);
    }

    private static void p8() {
        CountedChest x = alike(prices(1, 1), 3);
        due(8, "none", x.holds(0, 0), STATE);
        due(8, "OUTSIDE is ahead", x.holds(4, 0), OUTSIDE);
        due(8, "x of 1", x.holds(1, 0), OUTSIDE);
        due(8, "x of 1", x.holds(1, 25), OUTSIDE);
        due(8, "x of 3", x.holds(3, 2), OUTSIDE);
        due(8, "kind", x.holds(-1, 0), OUTSIDE);
        tell(x, "0", "10", "11");
        due(8, "free", x.holds(0, 99), 1);
        due(8, "bounded by 2", x.holds(1, 2), 1);
        due(8, "bounded by 1", x.holds(1, 1), 0);
        due(8, "ordered", x.holds(2, 0), 1);
        due(8, "ended", x.holds(3, 0), 0);
        tell(x, "1", "01", "001");
        due(8, "ended by 1", x.holds(3, 1), 1);
        due(8, "not ordered", x.holds(2, 0), 0);
        tell(x, "1", "01", "011");
        due(8, "not ended", x.holds(3, 1), 0);
        due(8, "not free", x.holds(0, 0), 0);
        tell(x, "0", "1", "");
        due(8, "an empty word", x.holds(0, 0), 0);
        tell(x, "0", "1", "1");
        due(8, "two the same", x.holds(0, 0), 0);
        tell(x, "0", "01", "1");
        due(8, "ordered is free, too", x.holds(2, 0), 0);
        due(8, "bounded is free, too", x.holds(1, 24), 0);
        x = chest(prices(5, 9), 1);
        x.build(2, 0);
        due(8, "the prices do not matter", x.holds(1, 1), 1);
    }

    private static void broke(CountedChest x, int kind, int a, int first, int second) {
        due(9, "holds", x.holds(kind, a), 0);
        due(9, "broken(0)", x.broken(0), first);
        due(9, "broken(1)", x.broken(1), second);
    }

    private static void p9() {
        CountedChest x = told(prices(1, 1), "0", "10", "11", "110");
        due(9, "which", x.broken(2), OUTSIDE);
        due(9, "which", x.broken(-1), OUTSIDE);
        due(9, "none yet", x.broken(0), NONE);
        broke(x, 0, 0, 2, 3);
        broke(x, 1, 2, 2, 3);
        broke(x, 1, 1, 1, NONE);
        tell(x, "0", "10", "110", "111");
        due(9, "holds", x.holds(0, 0), 1);
        due(9, "the latest that answered 0", x.broken(0), 1);
        due(9, "none", x.holds(4, 0), OUTSIDE);
        due(9, "the latest that answered 0", x.broken(0), 1);
        broke(x, 3, 1, 0, NONE);
        tell(x, "110", "", "0", "1");
        broke(x, 0, 0, 0, 1);
        tell(x, "", "0", "", "1");
        broke(x, 0, 0, 0, NONE);
        tell(x, "00", "11", "10", "01");
        broke(x, 2, 0, 1, 2);
        tell(x, "1", "01", "010", "0001");
        broke(x, 3, 1, 1, 2);
        tell(x, "1", "101", "01", "001");
        broke(x, 3, 1, 0, 1);
    }

    private static void p10() {
        CountedChest x = chest(prices(2, 9), 1000000, 3);
        due(10, "none", x.cost(), STATE);
        tell(x, "111111111111111111111111", "0");
        due(10, "cost()", x.cost(), 24L * 9 * 1000000 + 6);
        x.count(1, bits(5));
        due(10, "by the counts as they are", x.cost(), 24L * 9 * 1000000 + 10);
        x = chest(prices(1, 1), 5, 6);
        x.grow();
        x.send(0);
        due(10, "growing, by the told counts", x.cost(), 11);
    }

    private static void p11() {
        CountedChest x = chest(prices(1, 2), 1, 1, 1);
        due(11, "none", x.mean(), STATE);
        x.build(0, 0);
        due(11, "mean()", x.mean(), Double.doubleToLongBits(7.0 / 3.0));
        x = chest(prices(2, 9), 1000000, 3);
        tell(x, "1111111111111111", "0");
        due(11, "mean()", x.mean(), Double.doubleToLongBits((16.0 * 9 * 1000000 + 6) / 1000003.0));
        tell(x, "", "0");
        due(11, "a small one", x.mean(), Double.doubleToLongBits(6.0 / 1000003.0));
        tell(x, "0", "0");
        due(11, "a whole one", x.mean(), Double.doubleToLongBits(2.0));
        x = chest(prices(9, 8), 1);
        x.build(2, 0);
        due(11, "of one alone", x.mean(), Double.doubleToLongBits(8.0));
    }

    private static void p12and13() {
        CountedChest x = chest(prices(1, 1), 1, 1);
        due(12, "none", x.length(0), STATE);
        due(12, "UNKNOWN is ahead", x.length(2), UNKNOWN);
        due(13, "none", x.word(0, 0), STATE);
        due(13, "UNKNOWN is ahead", x.word(2, 0), UNKNOWN);
        tell(x, "", "100111");
        due(12, "length(0)", x.length(0), 0);
        due(12, "length(1)", x.length(1), 6);
        due(12, "length(-1)", x.length(-1), UNKNOWN);
        due(13, "word(0, 0)", x.word(0, 0), NONE);
        due(13, "word(1, 0)", x.word(1, 0), 1);
        due(13, "word(1, 2)", x.word(1, 2), 0);
        due(13, "word(1, 5)", x.word(1, 5), 1);
        due(13, "word(1, 6)", x.word(1, 6), NONE);
        due(13, "word(1, -1)", x.word(1, -1), NONE);
        due(13, "word(1, MIN)", x.word(1, Integer.MIN_VALUE), NONE);
        due(13, "word(-1, 0)", x.word(-1, 0), UNKNOWN);
    }

    private static void p14() {
        CountedChest x = alike(prices(1, 1, 1), 4);
        due(14, "none", x.room(), STATE);
        tell(x, "0", "10", "111", "");
        double a = 1.0 / 3, b = a / 3, c = b / 3;
        due(14, "room()", x.room(), Double.doubleToLongBits(0.0 + a + b + c + 1.0));
        x = told(prices(1, 1, 1, 1), "012301230123012301230123");
        due(14, "the least", x.room(), Double.doubleToLongBits(Math.pow(0.5, 48)));
    }

    private static void p15() {
        CountedChest x = alike(prices(1, 1), 3);
        due(15, "none", x.full(), STATE);
        x.own();
        due(15, "empty words", x.full(), NO);
        tell(x, "0", "10", "11");
        due(15, "full", x.full(), 1);
        tell(x, "0", "10", "111");
        due(15, "not full", x.full(), 0);
        tell(x, "0", "1", "10");
        due(15, "not free", x.full(), NO);
        x = told(prices(1, 1, 1), "0", "2", "10", "11", "12");
        due(15, "of three signs", x.full(), 1);
        tell(x, "0", "2", "10", "12", "111");
        due(15, "of three signs", x.full(), 0);
        x = told(prices(1, 1, 1, 1), "000000000000000000000000");
        due(15, "a long one", x.full(), 0);
    }

    private static void p16() {
        CountedChest x = alike(prices(1, 1), 4);
        due(16, "none", x.canon(), STATE);
        tell(x, "110", "0", "111", "10");
        due(16, "canon()", x.canon(), 1);
        due(16, "its words", wordsOf(x), "110 0 111 10");
        tell(x, "11", "11", "11", "11");
        due(16, "by lengths alone", x.canon(), 1);
        due(16, "its words", wordsOf(x), "00 01 10 11");
        tell(x, "111", "11", "1111", "1");
        due(16, "canon()", x.canon(), 1);
        due(16, "its words", wordsOf(x), "110 10 1110 0");
        tell(x, "1", "1", "1", "11");
        due(16, "not rows enough", x.canon(), NO);
        due(16, "nothing has changed", wordsOf(x), "1 1 1 11");
        tell(x, "1", "01", "", "11");
        due(16, "an empty word", x.canon(), NO);
        tell(x, "1", "01", "00", "1111111111111111111111111111");
        due(16, "no row is left", x.canon(), NO);
        x = told(prices(1, 1, 1), "22", "2", "2222", "2", "222");
        due(16, "three signs", x.canon(), 1);
        due(16, "its words", wordsOf(x), "20 0 2110 1 210");
        due(16, "it is not begun by own() any more", x.add(0, 1), STATE);
        x.keep(0);
        due(16, "kept", x.differs(0), NONE);
        due(16, "canon of canon", x.canon(), 1);
        due(16, "it is the same", x.differs(0), NONE);
        tell(x, "2", "2", "2", "2", "2");
        due(16, "refused", x.canon(), NO);
        due(16, "refused, it is begun by own()", x.add(0, 1), 2);
        canonOfGrowing();
    }

    private static void canonOfGrowing() {
        CountedChest x = alike(prices(1, 1), 3);
        x.grow();
        x.send(2);
        x.keep(3);
        due(16, "of a growing one", x.canon(), 1);
        due(16, "its words", wordsOf(x), "10 11 0");
        due(25, "canon() is not growing", x.send(2), STATE);
        due(25, "UNKNOWN is ahead", x.send(3), UNKNOWN);
        due(27, "canon() is not growing", x.grown(2), STATE);
        due(27, "UNKNOWN is ahead", x.grown(3), UNKNOWN);
        due(7, "canon() is not begun by own()", x.add(2, 0), STATE);
        due(16, "the line stays", lineOf(x), "11");
        due(26, "it is heard all the same", x.hear(), 1);
        due(24, "it grows anew", x.grow(), 3);
        due(27, "from its first counts on", x.grown(2), 1);
        due(25, "it grows anew", x.send(2), 2);
    }

    private static void p17() {
        CountedChest x = chest(prices(1, 2), 8, 4, 2, 1);
        due(17, "node(0, 1)", x.node(0, 1), 16);
        due(17, "node(2, 3)", x.node(2, 3), 4);
        due(17, "node(3, 3)", x.node(3, 3), 0);
        due(17, "node(0, 3)", x.node(0, 3), 36);
        due(17, "node(1, 3)", x.node(1, 3), Math.min(4 + 2 * 3 + 4, 6 + 8 + 2));
        due(17, "i above j", x.node(2, 1), UNKNOWN);
        due(17, "no thing", x.node(0, 4), UNKNOWN);
        due(17, "no thing", x.node(-1, 2), UNKNOWN);
        due(17, "no code is needed", x.told(3), 0);
        x = chest(prices(1), 8, 4);
        due(17, "one sign", x.node(0, 1), STATE);
        due(17, "one sign", x.node(1, 1), STATE);
        due(17, "UNKNOWN is ahead", x.node(1, 0), UNKNOWN);
        x = chest(prices(9, 8, 7, 6), 1, 1, 1, 1, 1);
        due(17, "four signs", x.node(0, 3), 30);
        due(17, "four signs", x.node(0, 4), 30 + 6 + 7 + 6);
    }

    private static void p18() {
        CountedChest x = alike(prices(1, 1), 3);
        due(18, "none", x.write(0), STATE);
        due(18, "UNKNOWN is ahead", x.write(3), UNKNOWN);
        tell(x, "01", "", "100");
        due(18, "write(2)", x.write(2), 3);
        due(18, "write(1)", x.write(1), 3);
        due(18, "write(0)", x.write(0), 5);
        due(18, "the line", lineOf(x), "10001");
        due(18, "no thing", x.write(-1), UNKNOWN);
        for (int k = 0; k < 97; k++) x.write(0);
        due(18, "199", x.told(2), 199);
        due(18, "it does not fit", x.write(0), FULL);
        due(18, "199 still", x.told(2), 199);
        due(18, "an empty word fits", x.write(1), 199);
        x.put(0);
        due(18, "an empty word fits", x.write(1), 200);
        due(18, "200", x.write(0), FULL);
    }

    private static void p19to21() {
        CountedChest x = new CountedChest();
        due(19, "no sign", x.put(0), UNKNOWN);
        x.sign(3);
        x.sign(4);
        due(19, "no sign", x.put(2), UNKNOWN);
        due(19, "no sign", x.put(-1), UNKNOWN);
        for (int k = 1; k <= 200; k++) due(19, "put", x.put(k % 3 == 0 ? 1 : 0), k);
        due(19, "the 201st", x.put(0), FULL);
        due(19, "UNKNOWN is ahead", x.put(2), UNKNOWN);
        due(21, "line(0)", x.line(0), 0);
        due(21, "line(2)", x.line(2), 1);
        due(21, "line(199)", x.line(199), 0);
        due(21, "line(200)", x.line(200), NONE);
        due(21, "line(-1)", x.line(-1), NONE);
        due(20, "wipe()", x.wipe(), 200);
        due(20, "wipe()", x.wipe(), 0);
        due(20, "the line is empty", x.told(2), 0);
        due(21, "line(0)", x.line(0), NONE);
        due(19, "put", x.put(1), 1);
        due(21, "line(0)", x.line(0), 1);
        due(21, "line(1)", x.line(1), NONE);
    }

    private static void p22and23() {
        CountedChest x = alike(prices(1, 1), 3);
        due(22, "none", x.read(), STATE);
        x.own();
        due(22, "not free", x.read(), NO);
        tell(x, "0", "10", "110");
        due(22, "an empty line", x.read(), 0);
        due(23, "no things", x.item(0), NONE);
        line(x, "110010");
        due(22, "read()", x.read(), 3);
        due(23, "items", itemsOf(x), "2 0 1");
        due(23, "item(-1)", x.item(-1), NONE);
        line(x, "1001111");
        due(22, "a fault", x.read(), -105);
        due(23, "items ahead of it", itemsOf(x), "1 0");
        line(x, "111");
        due(22, "a fault", x.read(), -102);
        due(23, "none ahead of it", itemsOf(x), "");
        line(x, "0011");
        due(22, "it ends within a word", x.read(), -104);
        due(23, "items ahead of it", itemsOf(x), "0 0");
        x.own();
        due(22, "not free", x.read(), NO);
        due(23, "items of the latest that was not NO", itemsOf(x), "0 0");
        x.thing(bits(1));
        due(22, "none", x.read(), STATE);
        due(23, "items of the latest that was not STATE", itemsOf(x), "0 0");
        x = told(prices(1, 1, 1), "00", "01", "2");
        line(x, "1");
        due(22, "at the first sign", x.read(), -100);
        line(x, "2012");
        due(22, "read()", x.read(), 3);
        line(x, "20");
        due(22, "within", x.read(), -102);
        line(x, "202");
        due(22, "a fault", x.read(), -102);
        x = told(prices(1, 1), "000000000000000000000000", "000000000000000000000001");
        line(x, "000000000000000000000001000000000000000000000000" + "00000000000000000000000");
        due(22, "long words", x.read(), -171);
        due(23, "long words", itemsOf(x), "1 0");
        tell(x, "0", "1");
        line(x, "01".repeat(100));
        due(22, "200 things", x.read(), 200);
        due(23, "the last", x.item(199), 1);
        due(23, "behind it", x.item(200), NONE);
    }

    private static void p24to27() {
        CountedChest x = alike(prices(1, 1), 3);
        due(25, "not growing", x.send(0), STATE);
        due(25, "UNKNOWN is ahead", x.send(3), UNKNOWN);
        due(27, "not growing", x.grown(0), STATE);
        due(27, "UNKNOWN is ahead", x.grown(-1), UNKNOWN);
        x.put(1);
        due(24, "grow()", x.grow(), 3);
        due(24, "the line is emptied", x.told(2), 0);
        due(24, "the first code", wordsOf(x), "0 10 11");
        due(27, "grown(2)", x.grown(2), 1);
        due(25, "send(2)", x.send(2), 2);
        due(25, "the code grows", wordsOf(x), "10 11 0");
        due(25, "send(2)", x.send(2), 3);
        due(25, "send(1)", x.send(1), 5);
        due(25, "the code grows", wordsOf(x), "11 10 0");
        due(27, "grown(2)", x.grown(2), 3);
        due(27, "grown(1)", x.grown(1), 2);
        due(25, "the line", lineOf(x), "11011");
        due(26, "hear()", x.hear(), 3);
        due(26, "items", itemsOf(x), "2 2 1");
        due(26, "the code at hand stays", wordsOf(x), "11 10 0");
        due(27, "its counts stay", x.grown(2), 3);
        due(22, "read by the code at hand", x.read(), 3);
        due(23, "items", itemsOf(x), "0 2 0");
        due(26, "heard again", x.hear(), 3);
        due(23, "items", itemsOf(x), "2 2 1");
        x.put(1);
        due(26, "it ends within", x.hear(), -106);
        due(26, "items ahead", itemsOf(x), "2 2 1");
        x.count(0, bits(500));
        due(25, "told counts do not matter", x.send(2), 7);
        due(25, "the code grows", wordsOf(x), "11 10 0");
        x.keep(0);
        x.wipe();
        due(25, "the wiped line", x.send(0), 2);
        x.back(0);
        due(25, "taken back", x.send(0), STATE);
        due(27, "taken back", x.grown(0), STATE);
        x.grow();
        due(27, "anew", x.grown(2), 1);
        for (int k = 0; k < 199; k++) x.put(0);
        due(25, "it does not fit", x.send(1), FULL);
        due(27, "nothing has changed", x.grown(1), 1);
        due(25, "it fits", x.send(0), 200);
        due(25, "FULL", x.send(0), FULL);
        due(25, "STATE is ahead of FULL", x.own() == 3 ? x.send(0) : 0, STATE);
        x.build(0, 0);
        due(25, "built", x.send(0), STATE);
        x.thing(bits(1));
        due(25, "gone", x.send(0), STATE);
    }

    private static void p24and26refused() {
        CountedChest x = alike(prices(1, 3), 9);
        due(24, "9 things", x.grow(), STATE);
        due(26, "9 things", x.hear(), STATE);
        x = alike(prices(1, 4), 2);
        due(24, "above 3", x.grow(), STATE);
        due(26, "above 3", x.hear(), STATE);
        x = alike(prices(7), 2);
        due(24, "one sign", x.grow(), STATE);
        due(26, "one sign", x.hear(), STATE);
        x.sign(7);
        due(26, "an empty line", x.hear(), 0);
        due(24, "like prices", x.grow(), 2);
        x = chest(prices(1, 1));
        x.put(1);
        due(24, "no things", x.grow(), STATE);
        due(24, "the line stays", x.told(2), 1);
        due(26, "no things", x.hear(), STATE);
        x.thing(bits(1));
        due(26, "a fault", x.hear(), -100);
        line(x, "001");
        due(26, "a fault behind two", x.hear(), -102);
        due(26, "items ahead of it", itemsOf(x), "0 0");
        due(26, "no code is needed", x.told(3), 0);
    }

    private static void p28and29() {
        CountedChest x = alike(prices(1, 1), 3);
        due(28, "none", x.step(), STATE);
        x.own();
        due(28, "not free", x.step(), NO);
        due(33, "told(5)", x.told(5), 0);
        tell(x, "0", "10", "11");
        due(28, "step()", x.step(), 1);
        due(29, "the step", stepOf(x), "0");
        due(28, "sets", x.told(5), 2);
        x.own();
        due(28, "not free", x.step(), NO);
        due(29, "the latest step() stays", stepOf(x), "0");
        due(28, "its sets, too", x.told(5), 2);
        due(29, "stepSign(-1)", x.stepSign(-1), NONE);
        due(29, "stepSign(1)", x.stepSign(1), NONE);
        tell(x, "00", "010", "1");
        due(28, "no row leads from each place home", x.step(), NONE);
        due(28, "sets", x.told(5), 3);
        due(29, "it found none", x.stepSign(0), NONE);
        tell(x, "0", "10", "110");
        due(28, "not full", x.step(), 1);
        tell(x, "1", "01", "001");
        due(29, "the latest step() stays", stepOf(x), "0");
        due(28, "ended", x.step(), 1);
        due(29, "the step", stepOf(x), "1");
        x = told(prices(1, 1), "00", "01", "10", "11");
        due(28, "there is none", x.step(), NONE);
        due(29, "there is none", x.stepSign(0), NONE);
        due(28, "sets", x.told(5), 3);
        x = told(prices(1, 1), "0", "1");
        due(28, "HOME alone", x.step(), 0);
        due(29, "the empty step", x.stepSign(0), NONE);
        due(28, "sets", x.told(5), 1);
        x = told(prices(1, 1), "01");
        due(28, "nowhere", x.step(), NONE);
        due(28, "sets", x.told(5), 1);
        x = told(prices(1, 1), "0000000000", "100", "1010000000", "01000000", "0100000100", "001000", "00110000", "00010000000",
            "0001000100000", "00001", "000001", "000000100000", "00000010001000", "00000001000000", "000000010100",
            "0000000010000", "000000001001", "0000000001000000", "0000000001010000");
        due(28, "2000 sets", x.step(), 46);
        due(28, "2000 sets", x.told(5), 2000);
        due(29, "the last sign", x.stepSign(45) == NONE ? 0 : 1, 1);
        x = told(prices(1, 1), "0000000000", "100000", "1100", "01000", "011000000", "001000000", "001000010", "0001000000",
            "00010000010", "000010000", "00001010", "0000010", "000001100", "0000001", "00000001000000", "000000010001000",
            "00000000100", "0000000011000", "00000000010", "00000000011");
        due(28, "2001 sets", x.step(), SPENT);
        due(28, "it had", x.told(5), 2000);
        due(29, "none was found", x.stepSign(0), NONE);
    }

    private static void p30to32() {
        CountedChest x = alike(prices(1, 1), 3);
        due(30, "none", x.keep(0), STATE);
        due(30, "no place", x.keep(8), UNKNOWN);
        due(30, "no place", x.keep(-1), UNKNOWN);
        due(31, "nothing is", x.back(0), UNKNOWN);
        due(31, "no place", x.back(8), UNKNOWN);
        due(32, "nothing is", x.differs(0), UNKNOWN);
        due(32, "no place", x.differs(-1), UNKNOWN);
        tell(x, "0", "10", "11");
        due(30, "keep(0)", x.keep(0), 1);
        due(30, "keep(7)", x.keep(7), 1);
        x.add(2, 0);
        due(32, "the third", x.differs(0), 2);
        due(30, "kept anew", x.keep(7), 1);
        due(32, "none", x.differs(7), NONE);
        due(31, "back(0)", x.back(0), 1);
        due(31, "its words", wordsOf(x), "0 10 11");
        due(31, "not begun by own()", x.add(0, 0), STATE);
        due(32, "the third", x.differs(7), 2);
        due(33, "kept", x.told(6), 2);
        x.grow();
        x.keep(1);
        due(31, "back(1)", x.back(1), 1);
        due(31, "not growing", x.send(0), STATE);
        x.thing(bits(1));
        due(32, "none at hand", x.differs(0), STATE);
        due(30, "none at hand", x.keep(0), STATE);
        due(31, "another number of things", x.back(0), STATE);
        due(31, "nothing is", x.back(2), UNKNOWN);
        tell(x, "0", "10", "11", "0");
        due(32, "the fourth has none there", x.differs(0), NONE);
        due(31, "another number of things", x.back(0), STATE);
        tell(x, "0", "11", "11", "0");
        due(32, "the second", x.differs(0), 1);
        tell(x, "00", "11", "11", "0");
        due(32, "only longer", x.differs(0), 0);
        x.keep(0);
        due(31, "four now", x.back(0), 1);
    }

    private static void p33to35() {
        CountedChest x = chest(prices(3, 1, 9), 2, 5, 2, 5);
        due(33, "signs", x.told(0), 3);
        due(33, "things", x.told(1), 4);
        due(33, "what", x.told(7), OUTSIDE);
        due(33, "what", x.told(-1), OUTSIDE);
        due(33, "no code", x.told(3), 0);
        due(33, "no places", x.told(4), 0);
        x.own();
        due(33, "a code", x.told(3), 1);
        due(33, "not free", x.told(4), 0);
        tell(x, "0", "10", "11", "1220");
        due(33, "places", x.told(4), 4);
        tell(x, "000000000000000000000000", "1", "10", "22");
        due(33, "not free", x.told(4), 0);
        tell(x, "000000000000000000000000", "1", "222222222222222222222222", "20");
        due(33, "places", x.told(4), 47);
        x.put(2);
        x.put(2);
        due(33, "the line", x.told(2), 2);
        x.keep(3);
        x.keep(3);
        x.keep(4);
        due(33, "kept", x.told(6), 2);
        due(34, "price(0)", x.price(0), 3);
        due(34, "price(2)", x.price(2), 9);
        due(34, "price(3)", x.price(3), UNKNOWN);
        due(34, "price(-1)", x.price(-1), UNKNOWN);
        due(35, "rank(0)", x.rank(0), 1);
        due(35, "rank(1)", x.rank(1), 3);
        due(35, "rank(2)", x.rank(2), 0);
        due(35, "rank(3)", x.rank(3), 2);
        due(35, "rank(4)", x.rank(4), UNKNOWN);
        due(35, "rank(-1)", x.rank(-1), UNKNOWN);
        x.count(2, bits(1000));
        due(35, "rank(0)", x.rank(0), 2);
    }

    private static void constants() {
        due(1, "UNKNOWN", WordChest.UNKNOWN, UNKNOWN);
        due(1, "OUTSIDE", WordChest.OUTSIDE, OUTSIDE);
        due(1, "STATE", WordChest.STATE, STATE);
        due(1, "FULL", WordChest.FULL, FULL);
        due(1, "NO", WordChest.NO, NO);
        due(1, "NONE", WordChest.NONE, NONE);
        due(1, "SPENT", WordChest.SPENT, SPENT);
    }

    public static void main(String[] args) {
        constants();
        p1();
        p2();
        p3();
        p4();
        p5free();
        p5others();
        p5refused();
        p6();
        p7();
        p8();
        p9();
        p10();
        p11();
        p12and13();
        p14();
        p15();
        p16();
        p17();
        p18();
        p19to21();
        p22and23();
        p24to27();
        p24and26refused();
        p28and29();
        p30to32();
        p33to35();
        end();
    }
}
