import java.util.Arrays;

/** Each sentence of the promises 1 to 35, at its edges; what is refused, and in which order, is asked for in Refusals, too. */
final class PromiseSentences extends Asking {
    private static final int MIN = Integer.MIN_VALUE;
    private static final int MAX = Integer.MAX_VALUE;

    /** Bits of floats that are no count: no number, below 1, above 1000000. */
    static final int[] NO_NUMBERS = {0x7f800001, 0x7fc00000, 0x7fffffff, 0xff800001, 0xffc00000, 0xffffffff};
    static final int[] BELOW = {0x3f7fffff, 0, 1, 0x007fffff, 0x80000000, 0xbf800000, 0xbf800001, 0xc9742400, 0xff7fffff, 0xff800000};
    static final int[] ABOVE = {0x49742401, 0x49742410, 0x49800000, 0x4b000000, 0x4f000000, 0x5f000000, 0x7f7fffff, 0x7f800000};

    static void all() {
        p1();
        p2();
        p3();
        p4();
        p5outside();
        p5state();
        p5no();
        p6();
        p7();
        p8();
        p9();
        p10and11();
        p12and13();
        p14();
        p15();
        p16();
        p17();
        p18();
        p19to21();
        p22();
        p23();
        p24();
        p25();
        p26();
        p27();
        p28();
        p28sets();
        p29();
        p30();
        p31();
        p32();
        p33();
        p34and35();
    }

    private static void p1() {
        of("Promise 1", "No SIGNS, no THINGS, no CODE");
        CountedChest x = new CountedChest();
        due("SIGNS", x.told(0), 0);
        due("THINGS", x.told(1), 0);
        due("CODE", x.told(3), 0);
        due("no SIGN", x.price(0), UNKNOWN);
        due("no THING", x.rank(0), UNKNOWN);
        due("no CODE", x.cost(), STATE);
        due("no PLACES", x.told(4), 0);
        due("nothing is kept", x.told(6), 0);
        for (int place = 0; place < 8; place++) due("nothing is kept", x.back(place), UNKNOWN);
        due("the latest holds(): none", brokenOf(x), "-6 -6");
        due("the latest read(): none", x.item(0), NONE);
        due("the latest step(): none", x.stepSign(0), NONE);
        due("it had no sets", x.told(5), 0);
        due("the first SIGN", x.sign(4), 0);
        due("the first THING", x.thing(bits(4)), 0);

        of("Promise 1", "an empty LINE");
        x = new CountedChest();
        due("told(2)", x.told(2), 0);
        due("line(0)", x.line(0), NONE);
        due("wipe()", x.wipe(), 0);
        CountedChest y = alike(prices(1, 1), 2);
        due("another object is by itself", x.told(0) + x.told(1), 0);
        due("and so is this", y.told(0) + y.told(1), 4);
    }

    private static void p2() {
        of("Promise 2", "A SIGN: its number");
        CountedChest x = new CountedChest();
        for (int s = 0; s < 4; s++) {
            due("sign", x.sign(9 - s), s);
            due("its price", x.price(s), 9 - s);
        }

        of("Promise 2", "THE CODE AT HAND is gone, THE LINE and the CHEST are emptied");
        x = alike(prices(1, 1), 2);
        x.build(0, 0);
        x.write(1);
        for (int place = 0; place < 8; place++) x.keep(place);
        due("all eight are kept", x.told(6), 8);
        due("sign", x.sign(1), 2);
        due("the CODE is gone", x.told(3), 0);
        due("cost()", x.cost(), STATE);
        due("THE LINE is empty", x.told(2), 0);
        due("line(0)", x.line(0), NONE);
        due("the CHEST is empty", x.told(6), 0);
        for (int place = 0; place < 8; place++) due("back", x.back(place), UNKNOWN);
        due("the THINGS stay", x.told(1), 2);
        tell(x, "0", "1");
        x.sign(1);
        due("a told one is gone, too", x.add(0, 0), STATE);
        x = alike(prices(1, 1), 2);
        x.grow();
        x.sign(1);
        due("a GROWING one is gone, too", x.send(0), STATE);

        of("Promise 2", "OUTSIDE: the price");
        x = new CountedChest();
        int[] off = {0, 10, -1, 11, MIN, MAX};
        for (int price : off) due("sign(" + price + ")", x.sign(price), OUTSIDE);
        due("the least", x.sign(1), 0);
        due("the greatest", x.sign(9), 1);

        of("Promise 2", "FULL: 4");
        due("the third", x.sign(5), 2);
        due("the fourth", x.sign(5), 3);
        due("the fifth", x.sign(5), FULL);
        due("four", x.told(0), 4);
        due("no fifth", x.price(4), UNKNOWN);
    }

    private static void p3() {
        of("Promise 3", "A THING with a count, told by the 32 bits of a float, taken down to a whole number: its number");
        CountedChest x = new CountedChest();
        int[] bits = {0x3f800000, 0x3f800001, 0x3fffffff, 0x40000000, 0x497423ff, 0x49742400};
        int[] whole = {1, 1, 1, 2, 999999, 1000000};
        for (int t = 0; t < bits.length; t++) due("thing", x.thing(bits[t]), t);
        for (int t = 0; t < bits.length; t++) due("its count", x.count(t, bits(1)), whole[t]);
        for (int power = 1; power < 20; power++) {
            float f = 1 << power;
            x.count(0, bits(Math.nextDown(f)));
            due("just below " + f, x.count(0, bits(f)), (1 << power) - 1);
            due("it is " + f, x.count(0, bits(Math.nextUp(f))), 1 << power);
            due("just above " + f, x.count(0, bits(1)), 1 << power);
        }

        of("Promise 3", "THE CODE AT HAND is gone");
        x = alike(prices(1, 1), 2);
        x.build(0, 0);
        x.write(1);
        x.keep(7);
        due("thing", x.thing(bits(1)), 2);
        due("it is gone", x.told(3), 0);
        due("cost()", x.cost(), STATE);
        due("THE LINE stays", lineOf(x), "1");
        due("the CHEST stays", x.told(6), 1);
        due("the SIGNS stay", x.told(0), 2);
        x.grow();
        x.thing(bits(1));
        due("a GROWING one is gone, too", x.grown(0), STATE);
        x.own();
        x.thing(bits(1));
        due("a told one is gone, too", x.add(0, 0), STATE);

        of("Promise 3", "OUTSIDE: no number, below 1, above 1000000");
        x = new CountedChest();
        for (int b : NO_NUMBERS) due("no number", x.thing(b), OUTSIDE);
        for (int b : BELOW) due("below 1: " + Float.intBitsToFloat(b), x.thing(b), OUTSIDE);
        for (int b : ABOVE) due("above 1000000: " + Float.intBitsToFloat(b), x.thing(b), OUTSIDE);
        due("there is none", x.told(1), 0);

        of("Promise 3", "FULL");
        for (int t = 0; t < 24; t++) due("thing", x.thing(bits(1)), t);
        due("the 25th", x.thing(bits(1)), FULL);
        due("24", x.told(1), 24);
    }

    private static void p4() {
        of("Promise 4", "Another count of a THING, likewise: which it had");
        CountedChest x = chest(prices(1, 2), 5, 3);
        x.build(0, 0);
        x.keep(0);
        x.write(0);
        due("it had", x.count(0, bits(1000000)), 5);
        due("it had", x.count(0, bits(1.99f)), 1000000);
        due("taken down", x.count(0, bits(1)), 1);
        due("the other one", x.count(1, bits(4)), 3);
        due("THE CODE AT HAND stays", wordsOf(x), "0 1");
        due("its COST by the new counts", x.cost(), 9);
        due("THE LINE stays", lineOf(x), "0");
        due("the CHEST stays", x.told(6), 1);
        due("the RANKS are new", x.rank(0), 1);
        x.own();
        x.count(0, bits(9));
        due("begun by own() all the same", x.add(0, 1), 1);
        x.grow();
        x.count(0, bits(8));
        due("GROWING all the same", x.send(0), 1);

        of("Promise 4", "UNKNOWN");
        int[] off = {-1, 2, MIN, MAX};
        for (int t : off) due("count(" + t + ")", x.count(t, bits(1)), UNKNOWN);
        due("the last one", x.count(1, bits(1)), 4);
        due("the first one", x.count(0, bits(1)), 8);
        due("no THINGS", new CountedChest().count(0, bits(1)), UNKNOWN);

        of("Promise 4", "OUTSIDE");
        for (int b : NO_NUMBERS) due("no number", x.count(0, b), OUTSIDE);
        for (int b : BELOW) due("below 1", x.count(0, b), OUTSIDE);
        for (int b : ABOVE) due("above 1000000", x.count(0, b), OUTSIDE);
        due("it had 1", x.count(0, bits(1)), 1);
    }

    private static void p5outside() {
        of("Promise 5", "A CODE of a KIND (x as told) is BUILT: its COST");
        CountedChest x = chest(prices(1, 1), 3, 2, 2);
        int[] anyX = {0, -1, 25, MIN, MAX};
        for (int any : anyX) due("of 0 x is not looked at", x.build(0, any), 11);
        for (int any : anyX) due("of 2 x is not looked at", x.build(2, any), 11);
        due("of 1 x is the longest", x.build(1, 2), 11);
        due("of 3 x is the SIGN", x.build(3, 1), 13);
        due("at hand", wordsOf(x), "1 01 001");
        due("its COST", x.cost(), 13);
        due("not begun by own()", x.add(0, 0), STATE);

        of("Promise 5", "OUTSIDE: the KIND, x of 1 not 1 to 24, of 3 no SIGN");
        int[] kinds = {-1, 4, MIN, MAX};
        for (int kind : kinds) due("the KIND " + kind, x.build(kind, 1), OUTSIDE);
        due("x of 1, too small", x.build(1, 0), OUTSIDE);
        due("x of 1, the least: there is none such", x.build(1, 1), NO);
        due("x of 1, the greatest", x.build(1, 24), 11);
        due("x of 1, too great", x.build(1, 25), OUTSIDE);
        due("x of 1", x.build(1, MIN), OUTSIDE);
        due("x of 1", x.build(1, MAX), OUTSIDE);
        due("x of 3, too small", x.build(3, -1), OUTSIDE);
        due("x of 3, the least", x.build(3, 0), 13);
        due("x of 3, the greatest", x.build(3, 1), 13);
        due("x of 3, too great", x.build(3, 2), OUTSIDE);
        due("x of 3", x.build(3, MIN), OUTSIDE);
        due("x of 3", x.build(3, MAX), OUTSIDE);
        x.sign(1);
        due("a SIGN now", x.build(3, 2), 11);
        due("no SIGN still", x.build(3, 3), OUTSIDE);
    }

    private static void p5state() {
        of("Promise 5", "STATE: fewer than 2 SIGNS, no THINGS");
        CountedChest x = new CountedChest();
        x.thing(bits(1));
        due("no SIGNS", x.build(0, 0), STATE);
        due("no SIGNS", x.build(1, 1), STATE);
        due("no SIGNS", x.build(2, 0), STATE);
        x.sign(1);
        due("one SIGN", x.build(0, 0), STATE);
        due("one SIGN", x.build(1, 1), STATE);
        due("one SIGN", x.build(2, 0), STATE);
        due("one SIGN", x.build(3, 0), STATE);
        x.sign(1);
        for (int kind = 0; kind < 4; kind++) due("two SIGNS", x.build(kind, 1), 1);
        x = chest(prices(1, 1));
        for (int kind = 0; kind < 4; kind++) due("no THINGS", x.build(kind, 1), STATE);
        x.thing(bits(1));
        for (int kind = 0; kind < 4; kind++) due("one THING", x.build(kind, 1), 1);

        of("Promise 5", "of 0 with unlike prices one above 3, or more than 8 THINGS");
        due("3 and 2", alike(prices(3, 2), 2).build(0, 0), 5);
        due("4 and 3", alike(prices(4, 3), 2).build(0, 0), STATE);
        due("3 and 4", alike(prices(3, 4), 2).build(0, 0), STATE);
        due("the fourth one is 4", alike(prices(1, 1, 1, 4), 2).build(0, 0), STATE);
        due("the fourth one is 3", alike(prices(1, 1, 1, 3), 2).build(0, 0), 2);
        due("1 and 9, one THING", alike(prices(1, 9), 1).build(0, 0), STATE);
        due("like ones may be 4", alike(prices(4, 4), 2).build(0, 0), 8);
        due("like ones may be 9", alike(prices(9, 9, 9, 9), 4).build(0, 0), 36);
        due("of 2 they may be", alike(prices(1, 4), 2).build(2, 0), 5);
        due("of 3 they may be", alike(prices(1, 4), 2).build(3, 0), 6);
        x = alike(prices(1, 2), 8);
        due("8 THINGS", x.build(0, 0) > 0 ? 1 : 0, 1);
        x.thing(bits(1));
        due("9 THINGS", x.build(0, 0), STATE);
        due("of 2 there may be more", x.build(2, 0) > 0 ? 1 : 0, 1);
        due("of 3 there may be more", x.build(3, 0) > 0 ? 1 : 0, 1);
        due("24, like prices", alike(prices(9, 9), 24).build(0, 0), 9 * 112);
        due("24, unlike prices", alike(prices(1, 1, 2), 24).build(0, 0), STATE);

        of("Promise 5", "of 1 a price that is not 1");
        due("1 and 1", alike(prices(1, 1), 2).build(1, 1), 2);
        due("1 and 2", alike(prices(1, 2), 2).build(1, 2), STATE);
        due("2 and 1", alike(prices(2, 1), 2).build(1, 2), STATE);
        due("like ones", alike(prices(2, 2), 2).build(1, 24), STATE);
        due("the fourth one", alike(prices(1, 1, 1, 2), 2).build(1, 2), STATE);
        due("24 THINGS", alike(prices(1, 1), 24).build(1, 5), 112);
    }

    private static void p5no() {
        of("Promise 5", "NO: there is none such");
        CountedChest x = alike(prices(1, 1), 2);
        due("two", x.build(1, 1), 2);
        x.thing(bits(1));
        due("three", x.build(1, 1), NO);
        due("three", x.build(1, 2), 5);
        x.thing(bits(1));
        due("four", x.build(1, 2), 8);
        x.thing(bits(1));
        due("five", x.build(1, 2), NO);
        due("five", x.build(1, 3), 12);
        x = alike(prices(1, 1, 1, 1), 16);
        due("sixteen", x.build(1, 2), 32);
        x.thing(bits(1));
        due("seventeen", x.build(1, 2), NO);
        due("seventeen", x.build(1, 3), 2 * 15 + 3 * 2);
        due("of 0 there is one", x.build(0, 0), 36);
        due("of 2 there is one", x.build(2, 0), 36);
    }

    private static void p6() {
        of("Promise 6", "A CODE begins whose WORDS are told: all are empty: how many THINGS");
        CountedChest x = alike(prices(1, 9), 24);
        due("24", x.own(), 24);
        due("the first", x.length(0), 0);
        due("the last", x.length(23), 0);
        due("there is a CODE", x.told(3), 1);
        due("nothing is told", x.cost(), 0);
        x = alike(prices(1, 1), 1);
        due("one", x.own(), 1);
        x.add(0, 1);
        due("begun anew", x.own(), 1);
        due("empty again", x.length(0), 0);
        x.build(0, 0);
        x.put(1);
        x.keep(1);
        due("behind a built one", x.own(), 1);
        due("empty", x.length(0), 0);
        due("THE LINE stays", x.told(2), 1);
        due("the CHEST stays", x.told(6), 1);
        x.grow();
        x.own();
        due("not GROWING any more", x.send(0), STATE);

        of("Promise 6", "STATE: fewer than 2 SIGNS, no THINGS");
        x = new CountedChest();
        due("neither", x.own(), STATE);
        x.thing(bits(1));
        due("no SIGNS", x.own(), STATE);
        x.sign(9);
        due("one SIGN", x.own(), STATE);
        x.sign(8);
        due("two SIGNS", x.own(), 1);
        due("no THINGS", chest(prices(1, 1)).own(), STATE);
        due("unlike prices and 9 THINGS are no matter", alike(prices(1, 9), 9).own(), 9);
    }

    private static void p7() {
        of("Promise 7", "A SIGN more at the end of a THING's WORD: its length");
        CountedChest x = alike(prices(1, 1, 1, 1), 24);
        x.own();
        due("the first SIGN", x.add(23, 3), 1);
        due("the second SIGN", x.add(23, 0), 2);
        due("another THING", x.add(0, 2), 1);
        due("at the end", wordOf(x, 23), "30");
        due("the other one", wordOf(x, 0), "2");
        due("no more", wordOf(x, 1), "");

        of("Promise 7", "UNKNOWN");
        int[] offThings = {-1, 24, MIN, MAX};
        for (int t : offThings) due("no THING " + t, x.add(t, 0), UNKNOWN);
        int[] offSigns = {-1, 4, MIN, MAX};
        for (int s : offSigns) due("no SIGN " + s, x.add(0, s), UNKNOWN);
        x = told(prices(1, 1), "");
        due("no SIGN 2", x.add(0, 2), UNKNOWN);
        due("SIGN 1", x.add(0, 1), 1);

        of("Promise 7", "STATE: THE CODE AT HAND was not begun by own()");
        x = alike(prices(1, 1), 2);
        due("none", x.add(0, 0), STATE);
        for (int kind = 0; kind < 4; kind++) {
            x.own();
            x.build(kind, 1);
            due("built of " + kind, x.add(0, 0), STATE);
        }
        tell(x, "0", "1");
        x.keep(0);
        due("kept, it goes on", x.add(0, 0), 2);
        x.back(0);
        due("taken back", x.add(0, 0), STATE);
        tell(x, "0", "1");
        x.canon();
        due("CANON", x.add(0, 0), STATE);
        x.own();
        x.grow();
        due("GROWING", x.add(0, 0), STATE);
        x.own();
        x.thing(bits(1));
        due("gone", x.add(0, 0), STATE);

        of("Promise 7", "FULL: 24");
        x = alike(prices(1, 1), 2);
        x.own();
        for (int k = 1; k <= 24; k++) due("add", x.add(0, k & 1), k);
        due("the 25th", x.add(0, 1), FULL);
        due("24", x.length(0), 24);
        due("the other one is not full", x.add(1, 1), 1);
    }

    private static void p8() {
        of("Promise 8", "Whether THE CODE AT HAND is of a KIND: 1, 0");
        CountedChest x = told(prices(1, 1), "1", "01");
        due("FREE", x.holds(0, MAX), 1);
        due("BOUNDED", x.holds(1, 2), 1);
        due("not BOUNDED", x.holds(1, 1), 0);
        due("not ORDERED", x.holds(2, MIN), 0);
        due("ENDED", x.holds(3, 1), 1);
        due("not ENDED", x.holds(3, 0), 0);
        x = alike(prices(2, 9), 24);
        x.build(3, 0);
        due("prices and many THINGS are no matter", x.holds(0, 0), 1);
        due("prices are no matter", x.holds(1, 24), 1);
        due("prices are no matter", x.holds(1, 23), 0);
        x = alike(prices(1, 1), 1);
        x.grow();
        due("a GROWING one", x.holds(0, 0), 1);

        of("Promise 8", "OUTSIDE: as in build()");
        int[] kinds = {-1, 4, MIN, MAX};
        for (int kind : kinds) due("the KIND " + kind, x.holds(kind, 1), OUTSIDE);
        due("x of 1, too small", x.holds(1, 0), OUTSIDE);
        due("x of 1, the least", x.holds(1, 1), 1);
        due("x of 1, the greatest", x.holds(1, 24), 1);
        due("x of 1, too great", x.holds(1, 25), OUTSIDE);
        due("x of 3, too small", x.holds(3, -1), OUTSIDE);
        due("x of 3, the least", x.holds(3, 0), 1);
        due("x of 3, the greatest", x.holds(3, 1), 0);
        due("x of 3, too great", x.holds(3, 2), OUTSIDE);

        of("Promise 8", "STATE: there is none (so below)");
        x = new CountedChest();
        due("none", x.holds(0, 0), STATE);
        x = alike(prices(1, 1), 2);
        for (int kind = 0; kind < 4; kind++) due("none", x.holds(kind, 1), STATE);
        due("cost()", x.cost(), STATE);
        due("mean()", x.mean(), STATE);
        due("length()", x.length(0), STATE);
        due("word()", x.word(0, 0), STATE);
        due("room()", x.room(), STATE);
        due("full()", x.full(), STATE);
        due("canon()", x.canon(), STATE);
        due("write()", x.write(0), STATE);
        due("read()", x.read(), STATE);
        due("step()", x.step(), STATE);
        due("keep()", x.keep(0), STATE);
        x.own();
        due("one with empty WORDS is one", x.holds(0, 0), 0);
    }

    private static void p9() {
        of("Promise 9", "What broke it in the latest holds() that answered 0");
        CountedChest x = told(prices(1, 1), "0", "10", "11");
        x.holds(1, 1);
        due("it broke", brokenOf(x), "1 -6");
        due("it holds", x.holds(0, 0), 1);
        due("a later 1 changes nothing", brokenOf(x), "1 -6");
        due("refused", x.holds(1, 0), OUTSIDE);
        due("a refused one changes nothing", brokenOf(x), "1 -6");
        x.holds(3, 1);
        due("a later 0 does", brokenOf(x), "0 -6");
        x.build(0, 0);
        x.wipe();
        x.thing(bits(1));
        due("it tells of that holds() still", brokenOf(x), "0 -6");

        of("Promise 9", "which = 0 the least THING that breaks it, by itself or with one of a greater number, 1 the least one of these");
        x = told(prices(1, 1), "0", "10", "1", "10", "11");
        x.holds(0, 0);
        due("with 2, 3: the least of these", brokenOf(x), "1 2");
        tell(x, "00", "01", "10", "110", "111");
        x.holds(1, 2);
        due("by itself", brokenOf(x), "3 -6");
        tell(x, "0", "10", "1100", "11", "111");
        x.holds(1, 3);
        due("by itself, ahead of others", brokenOf(x), "2 -6");
        tell(x, "0", "11", "111", "1111", "10");
        x.holds(1, 3);
        due("1 with 2 is ahead of 3 by itself", brokenOf(x), "1 2");
        tell(x, "00", "11", "10", "0111", "010");
        x.holds(2, 0);
        due("behind 2 and 3", brokenOf(x), "1 2");
        tell(x, "0", "1", "", "01", "11");
        x.holds(0, 0);
        due("the empty one is a beginning", brokenOf(x), "0 2");
        x = told(prices(1, 1), "1", "01", "001", "0001", "0001");
        x.holds(3, 1);
        due("the last two", brokenOf(x), "3 4");

        of("Promise 9", "NONE: by itself, or there was none");
        x = alike(prices(1, 1), 2);
        due("there was none", brokenOf(x), "-6 -6");
        x.holds(0, 0);
        due("STATE is none", brokenOf(x), "-6 -6");
        x.build(0, 0);
        x.holds(0, 0);
        due("1 is none", brokenOf(x), "-6 -6");
        x.own();
        x.holds(0, 0);
        due("by itself", brokenOf(x), "0 -6");
        tell(x, "0", "");
        x.holds(1, 1);
        due("with another one", brokenOf(x), "0 1");
        tell(x, "00", "1");
        x.holds(1, 1);
        due("by itself", brokenOf(x), "0 -6");
        tell(x, "1", "10");
        x.holds(3, 1);
        due("with another one", brokenOf(x), "0 1");
        tell(x, "1", "00");
        x.holds(3, 1);
        due("by itself", brokenOf(x), "1 -6");

        of("Promise 9", "OUTSIDE");
        int[] off = {-1, 2, MIN, MAX};
        for (int which : off) due("broken(" + which + ")", x.broken(which), OUTSIDE);
    }

    private static void p10and11() {
        of("Promise 10", "COST");
        CountedChest x = chest(prices(9, 1), 1000000, 1);
        tell(x, "", "");
        due("empty WORDS", x.cost(), 0);
        tell(x, "0".repeat(24), "1");
        due("cost()", x.cost(), 216000001L);

        of("Promise 10", "STATE (-3)");
        due("none", chest(prices(1, 1), 1).cost(), -3);
        due("a new object", new CountedChest().cost(), -3);

        of("Promise 11", "Bits of a double: COST by the sum of counts, both as doubles");
        due("mean()", x.mean(), Double.doubleToRawLongBits(216000001.0 / 1000001.0));
        tell(x, "", "1");
        due("far below 1", x.mean(), Double.doubleToRawLongBits(1.0 / 1000001.0));
        tell(x, "", "");
        due("0.0", x.mean(), 0);
        x = chest(prices(9, 9), 1);
        tell(x, "0".repeat(24));
        due("the greatest", x.mean(), Double.doubleToRawLongBits(216.0));
        x = chest(prices(1, 1), 1, 1, 1);
        x.build(0, 0);
        due("5 by 3", x.mean(), Double.doubleToRawLongBits(5.0 / 3.0));
        x.count(0, bits(5));
        due("by the counts as they are", x.mean(), Double.doubleToRawLongBits(9.0 / 7.0));
        x = chest(prices(1, 1), 8);
        x.own();
        for (int size = 1; size <= 24; size++) {
            x.add(0, 1);
            due("a whole one", x.mean(), Double.doubleToRawLongBits(size));
        }

        of("Promise 11", "STATE (-3)");
        due("none", chest(prices(1, 1), 1).mean(), -3);
        due("a new object", new CountedChest().mean(), -3);
    }

    private static void p12and13() {
        of("Promise 12", "How long a THING's WORD is");
        CountedChest x = told(prices(1, 1), "", "0", "01".repeat(12));
        due("empty", x.length(0), 0);
        due("one", x.length(1), 1);
        due("24", x.length(2), 24);

        int[] off = {-1, 3, MIN, MAX};
        of("Promise 12", "UNKNOWN");
        for (int t : off) due("length(" + t + ")", x.length(t), UNKNOWN);

        of("Promise 13", "SIGN k (from 0) of a THING's WORD");
        due("the first", x.word(2, 0), 0);
        due("the second", x.word(2, 1), 1);
        due("the 24th", x.word(2, 23), 1);
        due("the only one", x.word(1, 0), 0);

        of("Promise 13", "NONE");
        due("behind the 24th", x.word(2, 24), NONE);
        due("behind the only one", x.word(1, 1), NONE);
        due("of an empty one", x.word(0, 0), NONE);
        int[] offPlaces = {-1, 24, 25, MIN, MAX};
        for (int k : offPlaces) due("word(2, " + k + ")", x.word(2, k), NONE);

        of("Promise 13", "UNKNOWN");
        for (int t : off) due("word(" + t + ", 0)", x.word(t, 0), UNKNOWN);

        of("Promise 12", "STATE");
        x.thing(bits(1));
        due("none", x.length(0), STATE);

        of("Promise 13", "STATE");
        due("none", x.word(0, 0), STATE);
        due("none, and no SIGN k either", x.word(0, -1), STATE);
    }

    private static void p14() {
        of("Promise 14", "Bits of a double: for each THING, in order, added to 0.0: 1.0 divided by the number of SIGNS as often as its"
            + " WORD is long");
        CountedChest x = told(prices(1, 1, 1), "");
        due("of an empty one", x.room(), Double.doubleToRawLongBits(1.0));
        x.add(0, 0);
        due("of one SIGN", x.room(), Double.doubleToRawLongBits(1.0 / 3.0));
        for (int signs = 2; signs <= 4; signs++) {
            int[] prices = new int[signs];
            Arrays.fill(prices, signs);
            x = told(prices, "0".repeat(24), "1", "", "01".repeat(7));
            double[] shares = {1.0, 1.0, 1.0, 1.0};
            int[] sizes = {24, 1, 0, 14};
            double sum = 0.0;
            for (int t = 0; t < 4; t++) {
                for (int k = 0; k < sizes[t]; k++) shares[t] /= signs;
                sum += shares[t];
            }
            due("of " + signs + " SIGNS", x.room(), Double.doubleToRawLongBits(sum));
        }
        x = told(prices(1, 1), "");
        for (int size = 1; size <= 24; size++) {
            x.add(0, 1);
            due("a half as often", x.room(), Double.doubleToRawLongBits(1.0 / (1 << size)));
        }
        double third = 1.0 / 3, ninth = third / 3, least = ninth / 3 / 3 / 3 / 3 / 3;
        x = told(prices(1, 1, 1), "0000000", "00", "00", "0");
        due("in order", x.room(), Double.doubleToRawLongBits(0.0 + least + ninth + ninth + third));
        tell(x, "0", "00", "00", "0000000");
        due("in order", x.room(), Double.doubleToRawLongBits(0.0 + third + ninth + ninth + least));
        x = alike(prices(1, 1, 1, 1), 24);
        x.own();
        due("the greatest", x.room(), Double.doubleToRawLongBits(24.0));

        of("Promise 14", "STATE (-3)");
        due("none", alike(prices(1, 1), 1).room(), -3);
        due("a new object", new CountedChest().room(), -3);
    }

    private static void p15() {
        of("Promise 15", "Whether no WORD more could be had so that it is FREE: 1, 0");
        due("full", told(prices(1, 1), "0", "1").full(), 1);
        due("one is missing", told(prices(1, 1, 1), "0", "1").full(), 0);
        due("one alone", told(prices(1, 1), "0").full(), 0);
        String[] chain = new String[24];
        for (int t = 0; t < 24; t++) chain[t] = "1".repeat(Math.min(t, 23)) + (t < 23 ? "0" : "");
        due("a chain of 24", told(prices(1, 1), chain).full(), 1);
        chain[23] = chain[23] + "0";
        due("a ROW of 24 is missing", told(prices(1, 1), chain).full(), 0);
        due("four SIGNS", told(prices(1, 1, 1, 1), "0", "1", "2", "30", "31", "32", "33").full(), 1);
        due("four SIGNS", told(prices(1, 1, 1, 1), "0", "1", "2", "30", "31", "32", "333").full(), 0);
        due("three SIGNS", told(prices(9, 1, 1), "02", "1", "2", "01", "00").full(), 1);

        of("Promise 15", "STATE");
        due("none", alike(prices(1, 1), 1).full(), STATE);

        of("Promise 15", "NO: it is not FREE");
        due("an empty WORD", told(prices(1, 1), "").full(), NO);
        due("the same", told(prices(1, 1), "0", "1", "1").full(), NO);
        due("the beginning", told(prices(1, 1), "0", "1", "10").full(), NO);
    }

    private static void p16() {
        of("Promise 16", "THE CODE AT HAND becomes CANON by its lengths: 1");
        CountedChest x = told(prices(1, 1), "01", "1", "01");
        due("it need not be FREE", x.canon(), 1);
        due("CANON", wordsOf(x), "10 0 11");
        due("now it is", x.holds(0, 0), 1);
        due("again", x.canon(), 1);
        due("the same", wordsOf(x), "10 0 11");

        of("Promise 16", "STATE");
        due("none", alike(prices(1, 1), 1).canon(), STATE);

        of("Promise 16", "NO: a WORD is empty, or there are not ROWS enough");
        due("empty", told(prices(1, 1), "").canon(), NO);
        due("the last one is empty", told(prices(1, 1), "0", "1", "").canon(), NO);
        due("two for two", told(prices(1, 1), "0", "0").canon(), 1);
        due("two for three", told(prices(1, 1), "0", "0", "0").canon(), NO);
        due("the long ones have none", told(prices(1, 1), "0", "0", "0".repeat(24)).canon(), NO);
        due("four for four", told(prices(1, 1, 1, 1), "0", "0", "0", "0").canon(), 1);
        due("four for five", told(prices(1, 1, 1, 1), "0", "0", "0", "0", "0").canon(), NO);
        due("just enough", told(prices(1, 1, 1), "0", "0", "00", "00", "000", "000", "000").canon(), 1);
        due("one too many", told(prices(1, 1, 1), "0", "0", "00", "00", "000", "000", "000", "000").canon(), NO);
        String longest = "0".repeat(24);
        x = told(prices(1, 1), "0", "00", "000", longest, longest);
        due("of 24 SIGNS", x.canon(), 1);
        due("the last one", wordOf(x, 4), "111" + "0".repeat(20) + "1");
    }

    private static void p17() {
        of("Promise 17", "The least COST of what is dealt at a NODE of THINGS i to j (of ORDERED; 0: i is j)");
        CountedChest x = chest(prices(1, 2), 8, 4, 2, 1);
        due("one", x.node(0, 0), 0);
        due("the last one", x.node(3, 3), 0);
        due("the first two", x.node(0, 1), 16);
        due("the last two", x.node(2, 3), 4);
        due("all", x.node(0, 3), 36);
        due("as it is built", x.build(2, 0), 36);
        x.count(3, bits(1000000));
        due("by the counts as they are", x.node(2, 3), 2 + 2000000);
        x = chest(prices(9, 9), 1000000, 1000000, 1000000, 1000000);
        due("a great one", x.node(0, 3), 9L * 8 * 1000000);
        x = chest(prices(5, 3), 7);
        due("the only one", x.node(0, 0), 0);
        due("though its WORD is not empty", x.build(2, 0), 21);
        x = alike(prices(9, 9), 24);
        due("24", x.node(0, 23), 9 * 112);
        due("23", x.node(1, 23), 9 * (9 * 4 + 14 * 5));

        of("Promise 17", "UNKNOWN: THINGS, or i above j");
        int[] off = {-1, 24, MIN, MAX};
        for (int t : off) {
            due("i = " + t, x.node(t, 23), UNKNOWN);
            due("j = " + t, x.node(0, t), UNKNOWN);
        }
        due("i above j", x.node(1, 0), UNKNOWN);
        due("i above j", x.node(23, 22), UNKNOWN);
        due("i is j", x.node(23, 23), 0);
        due("no THINGS", chest(prices(1, 1)).node(0, 0), UNKNOWN);

        of("Promise 17", "STATE: fewer than 2 SIGNS");
        x = new CountedChest();
        x.thing(bits(1));
        x.thing(bits(1));
        due("none", x.node(0, 1), STATE);
        x.sign(2);
        due("one", x.node(0, 1), STATE);
        due("one", x.node(0, 0), STATE);
        x.sign(3);
        due("two", x.node(0, 1), 5);
    }

    private static void p18() {
        of("Promise 18", "A THING's WORD behind THE LINE: how many SIGNS it has");
        CountedChest x = told(prices(1, 1), "01".repeat(12), "", "1");
        due("24", x.write(0), 24);
        due("an empty one", x.write(1), 24);
        due("one more", x.write(2), 25);
        due("the LINE", lineOf(x), "01".repeat(12) + "1");

        int[] off = {-1, 3, MIN, MAX};
        of("Promise 18", "UNKNOWN");
        for (int t : off) due("write(" + t + ")", x.write(t), UNKNOWN);

        of("Promise 18", "FULL");
        for (int k = 2; k <= 8; k++) due("24 more", x.write(0), 24 * k + 1);
        due("193 and 24", x.write(0), FULL);
        due("193", x.told(2), 193);
        for (int k = 194; k < 200; k++) x.put(0);
        due("199", x.told(2), 199);
        due("the 200th", x.write(2), 200);
        due("the 201st", x.write(2), FULL);
        due("an empty one fits", x.write(1), 200);
        x.wipe();
        for (int k = 0; k < 176; k++) x.put(1);
        due("176 and 24", x.write(0), 200);
        x.wipe();
        for (int k = 0; k < 7; k++) x.write(0);
        for (int k = 168; k < 177; k++) x.put(1);
        due("177 and 24", x.write(0), FULL);
        due("177", x.told(2), 177);

        of("Promise 18", "STATE");
        x.thing(bits(1));
        due("none", x.write(2), STATE);
    }

    private static void p19to21() {
        of("Promise 19", "A SIGN behind THE LINE: how many it has");
        CountedChest x = chest(prices(9));
        due("one SIGN and no THING are enough", x.put(0), 1);
        due("two", x.put(0), 2);

        of("Promise 19", "UNKNOWN");
        int[] off = {-1, 1, MIN, MAX};
        for (int s : off) due("put(" + s + ")", x.put(s), UNKNOWN);
        due("no SIGNS", new CountedChest().put(0), UNKNOWN);

        of("Promise 19", "FULL");
        for (int k = 3; k <= 200; k++) due("put", x.put(0), k);
        due("the 201st", x.put(0), FULL);
        due("200", x.told(2), 200);

        of("Promise 20", "THE LINE is emptied: how many it had");
        due("200", x.wipe(), 200);
        due("none", x.wipe(), 0);
        due("it is empty", x.line(0), NONE);
        due("there is room again", x.put(0), 1);
        due("one", x.wipe(), 1);
        x = told(prices(1, 1), "0", "1");
        x.write(1);
        x.keep(0);
        x.wipe();
        due("the CODE stays", wordsOf(x), "0 1");
        due("it goes on", x.add(0, 1), 2);
        due("the CHEST stays", x.told(6), 1);

        of("Promise 21", "SIGN i of THE LINE");
        x = chest(prices(1, 1, 1, 1));
        for (int k = 0; k < 200; k++) x.put(k * k % 7 & 3);
        for (int k = 0; k < 200; k++) due("line(" + k + ")", x.line(k), k * k % 7 & 3);

        of("Promise 21", "NONE");
        int[] offPlaces = {-1, 200, 201, MIN, MAX};
        for (int i : offPlaces) due("line(" + i + ")", x.line(i), NONE);
        x.wipe();
        x.put(3);
        due("the only one", x.line(0), 3);
        due("behind it", x.line(1), NONE);
    }

    private static void p22() {
        of("Promise 22", "THE LINE is READ by THE CODE AT HAND: how many THINGS; -100 less the place of a FAULT");
        CountedChest x = told(prices(1, 1, 1), "0", "10", "12");
        due("an empty LINE", x.read(), 0);
        for (int k = 0; k < 200; k++) x.put(0);
        due("200 THINGS", x.read(), 200);
        due("THE LINE stays", x.told(2), 200);
        line(x, "2");
        due("at place 0", x.read(), -100);
        line(x, "11");
        due("at place 1", x.read(), -101);
        line(x, "0120102");
        due("at place 6", x.read(), -106);
        line(x, "1");
        due("the end, behind one SIGN", x.read(), -101);
        x.build(0, 0);
        due("by another CODE", x.read(), 1);

        of("Promise 22", "STATE");
        x.thing(bits(1));
        due("none", x.read(), STATE);

        of("Promise 22", "NO: it is not FREE");
        tell(x, "0", "1", "2", "");
        due("an empty WORD", x.read(), NO);
        tell(x, "0", "1", "2", "1");
        due("the same", x.read(), NO);
        tell(x, "0", "1", "2", "22");
        due("the beginning", x.read(), NO);
        tell(x, "0", "1", "20", "22");
        due("FREE", x.read(), 1);
    }

    private static void p23() {
        of("Promise 23", "THING k of the latest read(), hear() that was not STATE, NO (those ahead of a FAULT, too)");
        CountedChest x = told(prices(1, 1), "0", "10", "110");
        line(x, "10110");
        x.read();
        due("read", itemsOf(x), "1 2");
        x.wipe();
        due("THE LINE is no matter", itemsOf(x), "1 2");
        tell(x, "0", "1", "");
        due("NO", x.read(), NO);
        due("it stays", itemsOf(x), "1 2");
        x.thing(bits(1));
        due("STATE", x.read(), STATE);
        due("it stays", itemsOf(x), "1 2");
        x.sign(9);
        due("STATE", x.hear(), STATE);
        due("it stays", itemsOf(x), "1 2");
        x = told(prices(1, 1), "0", "10", "110");
        line(x, "100111");
        due("a FAULT", x.read(), -105);
        due("those ahead of it", itemsOf(x), "1 0");
        line(x, "1101");
        due("the end within a WORD", x.read(), -104);
        due("those ahead of it", itemsOf(x), "2");
        line(x, "111");
        due("a FAULT in the first WORD", x.read(), -102);
        due("none ahead of it", itemsOf(x), "");
        line(x, "11");
        due("heard", x.hear(), 1);
        due("heard", itemsOf(x), "2");
        line(x, "1");
        due("heard, the end within a WORD", x.hear(), -101);
        due("none ahead of it", itemsOf(x), "");
        line(x, "");
        x.read();
        due("of an empty LINE", itemsOf(x), "");

        of("Promise 23", "NONE");
        line(x, "0".repeat(200));
        x.read();
        due("the first one", x.item(0), 0);
        due("the last one", x.item(199), 0);
        int[] off = {-1, 200, 201, MIN, MAX};
        for (int k : off) due("item(" + k + ")", x.item(k), NONE);
    }

    private static void p24() {
        of("Promise 24", "GROWING begins, THE LINE is emptied: how many THINGS");
        CountedChest x = chest(prices(1, 1), 1, 5, 1000000);
        x.put(1);
        due("grow()", x.grow(), 3);
        due("THE LINE is empty", x.told(2), 0);
        due("FREE by counts of 1", wordsOf(x), "0 10 11");
        x.send(2);
        x.keep(2);
        due("it begins again", x.grow(), 3);
        due("THE LINE is empty", x.told(2), 0);
        due("1 again", x.grown(2), 1);
        due("FREE by counts of 1", wordsOf(x), "0 10 11");
        due("the CHEST stays", x.told(6), 1);
        due("24", alike(prices(9, 9), 24).grow(), 24);
        due("one", alike(prices(1, 3), 1).grow(), 1);
        due("8, unlike prices", alike(prices(3, 1), 8).grow(), 8);

        of("Promise 24", "STATE: as in build(0, 0)");
        asInBuild(y -> y.grow());
    }

    /** Where build(0, 0) answers STATE, and where it just does not. */
    private static void asInBuild(Call call) {
        CountedChest x = new CountedChest();
        x.thing(bits(1));
        due("no SIGNS", call.on(x), STATE);
        x.sign(1);
        due("one SIGN", call.on(x), STATE);
        x.sign(1);
        due("two SIGNS", call.on(x) >= 0 ? 1 : 0, 1);
        x = chest(prices(1, 1));
        due("no THINGS", call.on(x), STATE);
        x.thing(bits(1));
        due("one THING", call.on(x) >= 0 ? 1 : 0, 1);
        due("unlike, one above 3", call.on(alike(prices(1, 4), 2)), STATE);
        due("unlike, none above 3", call.on(alike(prices(1, 3), 2)) >= 0 ? 1 : 0, 1);
        due("like, above 3", call.on(alike(prices(4, 4), 2)) >= 0 ? 1 : 0, 1);
        due("unlike, 9 THINGS", call.on(alike(prices(1, 3), 9)), STATE);
        due("unlike, 8 THINGS", call.on(alike(prices(1, 3), 8)) >= 0 ? 1 : 0, 1);
        due("like, 24 THINGS", call.on(alike(prices(3, 3), 24)) >= 0 ? 1 : 0, 1);
    }

    private static void p25() {
        of("Promise 25", "A THING is sent: its WORD comes behind THE LINE: how many SIGNS it has");
        CountedChest x = alike(prices(1, 1), 3);
        x.grow();
        x.put(1);
        due("behind what is there", x.send(1), 3);
        due("the LINE", lineOf(x), "110");
        due("THE LINE, not the WORD", x.send(1), 4);
        due("the LINE", lineOf(x), "1100");

        of("Promise 25", "UNKNOWN");
        int[] off = {-1, 3, MIN, MAX};
        for (int t : off) due("send(" + t + ")", x.send(t), UNKNOWN);

        of("Promise 25", "FULL");
        x.wipe();
        for (int k = 0; k < 199; k++) x.put(0);
        due("199 and 2", x.send(0), FULL);
        due("its count is not one more", x.grown(0), 1);
        due("199", x.told(2), 199);
        due("199 and 1", x.send(1), 200);
        due("200 and 1", x.send(1), FULL);
        due("sent three times", x.grown(1), 4);

        of("Promise 25", "STATE: THE CODE AT HAND is not GROWING");
        x.wipe();
        x.keep(0);
        due("kept, it grows on", x.send(1), 1);
        x.back(0);
        due("taken back", x.send(1), STATE);
        for (int kind = 0; kind < 4; kind++) {
            x.grow();
            x.build(kind, kind == 1 ? 2 : 1);
            due("built of " + kind, x.send(0), STATE);
        }
        x.grow();
        x.own();
        due("told", x.send(0), STATE);
        x.grow();
        x.canon();
        due("CANON", x.send(0), STATE);
        x.grow();
        x.thing(bits(1));
        due("gone", x.send(0), STATE);
        due("none", alike(prices(1, 1), 1).send(0), STATE);
    }

    private static void p26() {
        of("Promise 26", "THE LINE is heard by a CODE that is GROWING by itself from its first counts on (THE CODE AT HAND stays): how many"
            + " THINGS; -100 less the place of a FAULT");
        CountedChest x = alike(prices(1, 1), 3);
        due("an empty LINE", x.hear(), 0);
        x.grow();
        int[] sent = {2, 2, 1, 0, 0, 0, 0, 2};
        for (int t : sent) x.send(t);
        String words = wordsOf(x);
        due("hear()", x.hear(), 8);
        due("what was sent", itemsOf(x), "2 2 1 0 0 0 0 2");
        due("from its first counts on again", x.hear(), 8);
        due("what was sent", itemsOf(x), "2 2 1 0 0 0 0 2");
        due("THE CODE AT HAND stays", wordsOf(x), words);
        due("its counts stay", x.grown(0) * 100 + x.grown(1) * 10 + x.grown(2), 524);
        due("it grows on", x.send(0) > 0 ? 1 : 0, 1);
        tell(x, "0", "1", "");
        due("the CODE at hand is no matter", x.hear(), 9);
        due("it stays", wordsOf(x), "0 1 ");
        due("and can be told on", x.add(2, 0), 1);
        x = line(alike(prices(1, 1), 4), "110");
        due("the first counts are 1: one more is twice as much", x.hear(), 2);
        due("what is heard", itemsOf(x), "3 3");
        x = alike(prices(1, 1), 2);
        for (int k = 0; k < 200; k++) x.put(k & 1);
        due("no CODE, 200 THINGS", x.hear(), 200);
        due("no CODE is at hand still", x.told(3), 0);
        x = alike(prices(1, 1, 1), 2);
        line(x, "2");
        due("a FAULT at place 0", x.hear(), -100);
        line(x, "0102");
        due("a FAULT at place 3", x.hear(), -103);
        x = alike(prices(1, 1), 3);
        line(x, "1");
        due("the end within a WORD", x.hear(), -101);
        x = alike(prices(1, 1), 1);
        for (int k = 0; k < 199; k++) x.put(0);
        x.put(1);
        due("a FAULT at the last place", x.hear(), -299);
        x = alike(prices(1, 1), 3);
        for (int k = 0; k < 199; k++) x.put(0);
        x.put(1);
        due("a full LINE ends within a WORD", x.hear(), -300);

        of("Promise 26", "STATE: as in build(0, 0)");
        asInBuild(y -> y.hear());
    }

    private static void p27() {
        of("Promise 27", "A THING's own count in GROWING");
        CountedChest x = alike(prices(1, 1, 1, 1), 24);
        x.grow();
        due("the first one", x.grown(0), 1);
        due("the last one", x.grown(23), 1);
        x.send(23);
        due("sent", x.grown(23), 2);
        due("another one", x.grown(22), 1);

        of("Promise 27", "UNKNOWN");
        int[] off = {-1, 24, MIN, MAX};
        for (int t : off) due("grown(" + t + ")", x.grown(t), UNKNOWN);

        of("Promise 27", "STATE: as in send()");
        x = alike(prices(1, 1), 2);
        due("none", x.grown(0), STATE);
        x.grow();
        x.keep(0);
        due("kept, it grows on", x.grown(0), 1);
        x.back(0);
        due("taken back", x.grown(0), STATE);
        x.grow();
        x.build(2, 0);
        due("built", x.grown(0), STATE);
        x.grow();
        x.own();
        due("told", x.grown(0), STATE);
        x.grow();
        x.canon();
        due("CANON", x.grown(0), STATE);
        x.grow();
        x.sign(1);
        due("gone", x.grown(0), STATE);
    }

    private static void p28() {
        of("Promise 28", "The length of the shortest STEP of THE CODE AT HAND, of several the first in order");
        CountedChest x = told(prices(1, 1, 1), "0", "1", "20", "21", "22");
        due("0 and 1 lead HOME from each", x.step(), 1);
        due("0 is the first one; 1 would do, too", stepOf(x), "0");
        x = told(prices(1, 1), "0", "1");
        due("the shortest of all", x.step(), 0);
        x = told(prices(1, 1), "1", "01", "001");
        due("not 0, but 1", x.step(), 1);
        due("the second SIGN", stepOf(x), "1");
        x = told(prices(1, 1), "1", "00", "010", "011");
        due("none of one SIGN", x.step(), 2);

        of("Promise 28", "NONE: there is none");
        x = told(prices(1, 1), "00", "01", "10", "11");
        due("two SIGNS a WORD", x.step(), NONE);
        x = told(prices(1, 1), "0".repeat(24));
        due("one WORD", x.step(), NONE);
        due("one set", x.told(5), 1);

        of("Promise 28", "STATE");
        due("none", alike(prices(1, 1), 2).step(), STATE);

        of("Promise 28", "NO: it is not FREE");
        due("empty", told(prices(1, 1), "").step(), NO);
        due("the same", told(prices(1, 1), "0", "0").step(), NO);
        due("the beginning", told(prices(1, 1), "0", "01").step(), NO);
    }

    private static void p28sets() {
        of("Promise 28", "It is looked for by sets of PLACES: the set of all first, then for each, as they came, what each SIGN, in order,"
            + " makes of it (none, where it leads nowhere from one of it), new ones behind");
        CountedChest x = told(prices(1, 1), "0");
        due("the set of all is HOME", x.step(), 0);
        due("one set", x.told(5), 1);
        x = told(prices(1, 1), "00", "01", "10", "11");
        x.step();
        due("all; HOME and 0; HOME and 1", x.told(5), 3);
        x = told(prices(1, 1), "01", "10", "11");
        x.step();
        due("all; HOME and 1; HOME and 0; 0 leads nowhere from 0", x.told(5), 3);
        x = told(prices(1, 1, 1), "10", "11", "12", "0", "2");
        due("the first SIGN", x.step(), 1);
        due("no further set is looked at", x.told(5), 2);
        x = told(prices(1, 1), "1", "00", "010", "011");
        due("two SIGNS", x.step(), 2);
        due("all; HOME and 0; HOME and 01; HOME", x.told(5), 4);

        x = told(prices(1, 1), "00", "01", "100", "101", "11");
        due("three SIGNS", x.step(), 3);
        due("all; HOME, 0, 10; HOME, 1; HOME, 0; 0, 10; HOME", x.told(5), 6);
        due("looked for again", x.step(), 3);
        due("as many sets", x.told(5), 6);
        manySigns();
        manyPlaces();
        oneBehindAnother();

        of("Promise 28", "SPENT, when more than 2000 sets would be");
        x = told(prices(1, 1), "0000000000", "100", "1010000000", "01000000", "0100000100", "001000", "00110000", "00010000000",
            "0001000100000", "00001", "000001", "000000100000", "00000010001000", "00000001000000", "000000010100",
            "0000000010000", "000000001001", "0000000001000000", "0000000001010000");
        due("2000 sets, the last one is HOME", x.step(), 46);
        due("2000 sets", x.told(5), 2000);
        due("the STEP's last SIGN", x.stepSign(45) == NONE ? 0 : 1, 1);
        due("no more", x.stepSign(46), NONE);
        x = told(prices(1, 1), "0000000000", "100000", "1100", "01000", "011000000", "001000000", "001000010", "0001000000",
            "00010000010", "000010000", "00001010", "0000010", "000001100", "0000001", "00000001000000", "000000010001000",
            "00000000100", "0000000011000", "00000000010", "00000000011");
        due("2001 sets, the last one would be HOME", x.step(), SPENT);
        due("2000 sets", x.told(5), 2000);
    }

    private static void manySigns() {
        String[] words = new String[16];
        for (int t = 0; t < 16; t++) words[t] = "" + t / 4 + t % 4;
        CountedChest x = told(prices(1, 1, 1, 1), words);
        due("four SIGNS, two a WORD", x.step(), NONE);
        due("all; HOME and one for each SIGN", x.told(5), 5);
    }

    /** From all PLACES but the last one SIGN 0 leads somewhere: of that one nothing may be forgotten. */
    private static void manyPlaces() {
        for (int size = 17; size <= 24; size++) {
            CountedChest x = told(prices(1, 1), "0".repeat(24), "1" + "0".repeat(23), "01" + "0".repeat(size - 3) + "1");
            due("PLACES", x.told(4), 45 + size);
            due("no SIGN leads from all of them somewhere", x.step(), NONE);
            due("the set of all", x.told(5), 1);
        }
    }

    private static void oneBehindAnother() {
        CountedChest x = told(prices(1, 1), "0", "10");
        due("0 leads from 1 HOME", x.step(), 1);
        tell(x, "10", "11");
        due("0 leads from HOME nowhere now", x.step(), NONE);
        due("one set", x.told(5), 1);
        tell(x, "01", "10");
        due("no SIGN leads from all somewhere", x.step(), NONE);
        tell(x, "0", "1");
        due("HOME alone", x.step(), 0);
        due("one set", x.told(5), 1);
        tell(x, "0", "10");
        due("as it was at first", x.step(), 1);
        due("as it was at first", stepOf(x), "0");
        due("two sets", x.told(5), 2);
    }

    private static void p29() {
        of("Promise 29", "SIGN k of the STEP that the latest step() found");
        CountedChest x = told(prices(1, 1), "1", "00", "010", "011");
        x.step();
        due("the first one", x.stepSign(0), 1);
        due("the last one", x.stepSign(1), 1);
        x = told(prices(1, 1), "00", "01", "100", "101", "11");
        due("three SIGNS", x.step(), 3);
        due("in order", stepOf(x), "100");
        x = told(prices(1, 1), "1", "00", "010", "011");
        x.step();
        x.own();
        due("NO", x.step(), NO);
        due("that was refused: the latest one stays", stepOf(x), "11");
        x.thing(bits(1));
        due("STATE", x.step(), STATE);
        due("that was refused: the latest one stays", stepOf(x), "11");

        of("Promise 29", "NONE: it found none, none such");
        int[] off = {-1, 2, 3, MIN, MAX};
        for (int k : off) due("stepSign(" + k + ")", x.stepSign(k), NONE);
        x = told(prices(1, 1), "0", "10", "11");
        due("none was looked for", x.stepSign(0), NONE);
        x.step();
        due("found", x.stepSign(0), 0);
        tell(x, "01", "10", "11");
        due("none", x.step(), NONE);
        due("it found none", x.stepSign(0), NONE);
        x = told(prices(1, 1), "0", "1");
        due("the empty STEP", x.step(), 0);
        due("it has no SIGN", x.stepSign(0), NONE);
    }

    private static void p30() {
        of("Promise 30", "THE CODE AT HAND is kept at a place (0 to 7) of the CHEST: 1");
        CountedChest x = told(prices(1, 1), "0", "1");
        for (int place = 0; place < 8; place++) {
            due("keep(" + place + ")", x.keep(place), 1);
            due("so many", x.told(6), place + 1);
        }
        due("again", x.keep(0), 1);
        due("no more of them", x.told(6), 8);
        due("it stays at hand", wordsOf(x), "0 1");
        due("and is told on", x.add(0, 0), 2);
        due("what is kept stays", x.differs(0), 0);
        due("kept anew", x.keep(0), 1);
        due("what is kept is new", x.differs(0), NONE);
        due("no other one", x.differs(1), 0);
        tell(x, "", "");
        due("empty WORDS can be kept", x.keep(3), 1);
        due("so they are", x.differs(3), NONE);
        CountedChest y = told(prices(1, 1), "01");
        due("of one THING", y.keep(4), 1);
        due("one is kept", y.told(6), 1);
        due("so it is", y.differs(4), NONE);
        y.build(0, 0);
        due("another one", y.differs(4), 0);
        due("it comes back", y.back(4), 1);
        due("its WORD", wordsOf(y), "01");

        of("Promise 30", "UNKNOWN");
        int[] off = {-1, 8, MIN, MAX};
        for (int place : off) due("keep(" + place + ")", x.keep(place), UNKNOWN);

        of("Promise 30", "STATE");
        x.thing(bits(1));
        due("none", x.keep(0), STATE);
        due("none", x.keep(7), STATE);
    }

    private static void p31() {
        of("Promise 31", "What is kept there is THE CODE AT HAND (not GROWING, and not begun by own()): 1");
        CountedChest x = told(prices(1, 1), "01", "1");
        x.keep(0);
        x.grow();
        x.send(1);
        x.keep(7);
        x.build(2, 0);
        due("back(0)", x.back(0), 1);
        due("its WORDS", wordsOf(x), "01 1");
        due("not begun by own()", x.add(0, 0), STATE);
        due("back(7)", x.back(7), 1);
        due("its WORDS", wordsOf(x), "1 0");
        due("not GROWING", x.send(0), STATE);
        due("not GROWING", x.grown(0), STATE);
        due("it is kept still", x.told(6), 2);
        x.canon();
        due("what is kept stays", x.back(7), 1);
        due("its WORDS", wordsOf(x), "1 0");
        x.own();
        due("behind a told one", x.back(0), 1);
        due("not begun by own()", x.add(0, 0), STATE);
        x.grow();
        due("behind a GROWING one", x.back(0), 1);
        due("not GROWING", x.send(0), STATE);
        due("THE LINE stays", x.told(2), 0);
        x.put(1);
        x.back(0);
        due("THE LINE stays", x.told(2), 1);

        of("Promise 31", "UNKNOWN: also nothing is");
        int[] off = {-1, 8, MIN, MAX};
        for (int place : off) due("no place " + place, x.back(place), UNKNOWN);
        for (int place = 1; place < 7; place++) due("nothing is at " + place, x.back(place), UNKNOWN);

        of("Promise 31", "STATE: it has WORDS for another number of THINGS");
        x.thing(bits(1));
        due("two for three", x.back(0), STATE);
        due("two for three", x.back(7), STATE);
        due("none at hand", x.told(3), 0);
        tell(x, "0", "10", "11");
        x.keep(0);
        due("two for three", x.back(7), STATE);
        x.own();
        due("three for three", x.back(0), 1);
        due("its WORDS", wordsOf(x), "0 10 11");
    }

    private static void p32() {
        of("Promise 32", "The first THING whose WORD there is another one than in THE CODE AT HAND");
        CountedChest x = told(prices(1, 1), "0", "10", "11");
        x.keep(0);
        tell(x, "1", "10", "11");
        due("the first", x.differs(0), 0);
        tell(x, "0", "11", "10");
        due("the second", x.differs(0), 1);
        tell(x, "0", "10", "01");
        due("the last", x.differs(0), 2);
        tell(x, "0", "10", "110");
        due("longer by a SIGN 0", x.differs(0), 2);
        tell(x, "0", "1", "11");
        due("shorter by a SIGN 0", x.differs(0), 1);
        tell(x, "", "10", "11");
        due("empty", x.differs(0), 0);

        of("Promise 32", "NONE: none (or one has none there)");
        tell(x, "0", "10", "11");
        due("none", x.differs(0), NONE);
        x.count(0, bits(77));
        due("counts are no matter", x.differs(0), NONE);
        x.thing(bits(1));
        tell(x, "0", "10", "11", "00");
        due("the fourth has none there", x.differs(0), NONE);
        tell(x, "0", "10", "00", "00");
        due("the third has another one", x.differs(0), 2);

        of("Promise 32", "UNKNOWN: also nothing is");
        int[] off = {-1, 8, MIN, MAX};
        for (int place : off) due("no place " + place, x.differs(place), UNKNOWN);
        for (int place = 1; place < 8; place++) due("nothing is at " + place, x.differs(place), UNKNOWN);

        of("Promise 32", "STATE");
        x.thing(bits(1));
        due("none", x.differs(0), STATE);
    }

    private static void p33() {
        of("Promise 33", "How many: 0 SIGNS, 1 THINGS, 2 SIGNS of THE LINE, 3 whether there is a CODE AT HAND, 4 PLACES of it (0: none, it is"
            + " not FREE), 5 sets that the latest step() had, 6 kept CODES");
        CountedChest x = new CountedChest();
        for (int what = 0; what <= 6; what++) due("told(" + what + ")", x.told(what), 0);
        for (int s = 1; s <= 4; s++) {
            x.sign(1);
            due("SIGNS", x.told(0), s);
        }
        for (int t = 1; t <= 24; t++) {
            x.thing(bits(1));
            due("THINGS", x.told(1), t);
        }
        x.put(0);
        due("SIGNS of THE LINE", x.told(2), 1);
        x.own();
        due("a CODE", x.told(3), 1);
        due("it is not FREE", x.told(4), 0);
        x.build(0, 0);
        due("HOME, 0 to 3, three of two SIGNS", x.told(4), 8);
        due("no step() yet", x.told(5), 0);
        x.step();
        int sets = x.told(5);
        due("some", sets > 0 ? 1 : 0, 1);
        x.own();
        due("NO", x.step(), NO);
        due("of the latest one that was not refused", x.told(5), sets);
        x.keep(5);
        due("kept", x.told(6), 1);
        x = alike(prices(1, 1), 2);
        due("there is none", x.told(4), 0);
        x.build(0, 0);
        x.thing(bits(1));
        due("it is gone", x.told(3), 0);
        due("it is gone", x.told(4), 0);

        of("Promise 33", "OUTSIDE");
        int[] off = {-1, 7, MIN, MAX};
        for (int what : off) due("told(" + what + ")", x.told(what), OUTSIDE);
    }

    private static void p34and35() {
        of("Promise 34", "The price of a SIGN");
        CountedChest x = chest(prices(1, 9, 4, 2), 3, 1000000, 3);
        due("the first", x.price(0), 1);
        due("the second", x.price(1), 9);
        due("the third", x.price(2), 4);
        due("the last", x.price(3), 2);

        of("Promise 34", "UNKNOWN");
        int[] offSigns = {-1, 4, MIN, MAX};
        for (int s : offSigns) due("price(" + s + ")", x.price(s), UNKNOWN);
        due("no SIGNS", new CountedChest().price(0), UNKNOWN);
        due("of two no third", chest(prices(1, 1)).price(2), UNKNOWN);

        of("Promise 35", "The THING of a RANK (from 0)");
        due("the greatest", x.rank(0), 1);
        due("of like ones", x.rank(1), 0);
        due("the last", x.rank(2), 2);
        x.count(2, bits(4));
        due("by the counts as they are", x.rank(1), 2);

        of("Promise 35", "UNKNOWN");
        int[] offRanks = {-1, 3, MIN, MAX};
        for (int k : offRanks) due("rank(" + k + ")", x.rank(k), UNKNOWN);
        due("no THINGS", new CountedChest().rank(0), UNKNOWN);
    }
}
