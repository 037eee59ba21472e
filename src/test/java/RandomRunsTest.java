import java.util.Random;

/** Runs of calls drawn by told seeds, on WordChest and on SlowChest: each answer must be the same. */
public final class RandomRunsTest {
    private static int wrong = 0;
    private static long calls = 0;

    private final Random random;
    private final WordChest fast = new WordChest();
    private final SlowChest slow = new SlowChest();
    private final int seed;
    private String log = "";
    private int made = 0;

    private RandomRunsTest(int seed) {
        this.seed = seed;
        this.random = new Random(seed);
    }

    private boolean same(String call, long got, long want) {
        made++;
        if (made > CountedChest.MOST_CALLS) {
            return true; // what it answers then is free
        }
        calls++;
        log = log + " " + call + "=" + got;
        if (got == want) {
            return true;
        }
        wrong++;
        System.out.println("seed " + seed + ":" + log + ", due is " + want);
        return false;
    }

    private int any(int bound) {
        return random.nextInt(bound);
    }

    /** Mostly a right number, now and then one beside. */
    private int near(int bound) {
        int draw = any(40);
        return draw == 0 ? -1 : draw == 1 ? bound : draw == 2 ? Integer.MAX_VALUE : draw == 3 ? Integer.MIN_VALUE
                : bound <= 0 ? 0 : any(bound);
    }

    private int bits(int style) {
        int draw = any(60);
        float f = draw == 0 ? 0.99f : draw == 1 ? Float.NaN : draw == 2 ? -3f : draw == 3 ? 1000001f : draw == 4 ? 1000000f
                : draw == 5 ? Float.POSITIVE_INFINITY
                : style == 0 ? 1 + any(3) : style == 1 ? 1 + any(12) + random.nextFloat() : style == 2 ? 1 + any(1000000)
                : (float) Math.pow(1.3 + any(2) * 0.4, any(24));
        return Float.floatToRawIntBits(f);
    }

    private boolean begin(int style) {
        int signs = 2 + any(3);
        int priceStyle = any(4);
        int like = 1 + any(9);
        boolean right = true;
        for (int s = 0; s < signs; s++) {
            int price = priceStyle == 0 ? 1 : priceStyle == 1 ? like : priceStyle == 2 ? 1 + any(3) : 1 + any(9);
            right &= same("sign(" + price + ")", fast.sign(price), slow.sign(price));
        }
        int things = any(4) == 0 ? 1 + any(24) : 1 + any(8);
        for (int t = 0; t < things; t++) {
            int bits = bits(style);
            right &= same("thing(" + bits + ")", fast.thing(bits), slow.thing(bits));
        }
        return right;
    }

    /** Words of an own code, mostly FREE ones: a way down, or a built one told anew with little changed. */
    private boolean tell() {
        boolean right = same("own()", fast.own(), slow.own());
        int longest = 1 + any(any(3) == 0 ? 26 : 6);
        for (int t = 0; t < slow.counts.size(); t++) {
            int size = any(8) == 0 ? any(longest + 1) : longest;
            for (int k = 0; k < size; k++) {
                int s = any(Math.max(1, slow.prices.size()));
                right &= same("add(" + t + ", " + s + ")", fast.add(t, s), slow.add(t, s));
            }
        }
        return right;
    }

    private boolean tellAgain() {
        if (slow.hand == null) {
            return true;
        }
        java.util.List<String> words = new java.util.ArrayList<>(slow.hand);
        if (any(2) == 0) {
            java.util.Collections.shuffle(words, random);
        }
        boolean right = same("own()", fast.own(), slow.own());
        for (int t = 0; t < words.size(); t++) {
            for (int k = 0; k < words.get(t).length(); k++) {
                int s = words.get(t).charAt(k) - '0';
                right &= same("add(" + t + ", " + s + ")", fast.add(t, s), slow.add(t, s));
            }
        }
        return right;
    }

    private boolean sendMany() {
        boolean right = same("grow()", fast.grow(), slow.grow());
        int many = any(30);
        for (int q = 0; q < many && !slow.counts.isEmpty(); q++) {
            int t = Math.min(any(slow.counts.size()), any(slow.counts.size()));
            right &= same("send(" + t + ")", fast.send(t), slow.send(t));
        }
        return right && same("hear()", fast.hear(), slow.hear());
    }

    private boolean readAll() {
        boolean right = same("read()", fast.read(), slow.read());
        for (int k = 0; k <= slow.items.size(); k++) {
            right &= same("item(" + k + ")", fast.item(k), slow.item(k));
        }
        return right;
    }

    private boolean spellAll() {
        boolean right = true;
        for (int t = 0; t < slow.counts.size(); t++) {
            int size = slow.hand == null ? 0 : slow.hand.get(t).length();
            right &= same("length(" + t + ")", fast.length(t), slow.length(t));
            for (int k = 0; k < size; k++) {
                right &= same("word(" + t + ", " + k + ")", fast.word(t, k), slow.word(t, k));
            }
        }
        return right;
    }

    private boolean stepAll() {
        int size = slow.step();
        boolean right = same("step()", fast.step(), size);
        for (int k = 0; k <= Math.max(0, size); k++) {
            right &= same("stepSign(" + k + ")", fast.stepSign(k), slow.stepSign(k));
        }
        return right & same("told(5)", fast.told(5), slow.told(5));
    }

    private boolean one(int style) {
        int t = near(slow.counts.size());
        int s = near(slow.prices.size());
        int k = near(10);
        int b = bits(style);
        int kind = near(4);
        int x = kind == 3 ? s : kind == 1 ? near(any(2) == 0 ? 25 : 6) : k;
        int place = near(any(3) == 0 ? 8 : 2);
        switch (any(44)) {
            case 0: return any(12) != 0 || same("sign(" + k + ")", fast.sign(k), slow.sign(k));
            case 1: return any(4) != 0 || same("thing(" + b + ")", fast.thing(b), slow.thing(b));
            case 2: return same("count(" + t + ", " + b + ")", fast.count(t, b), slow.count(t, b));
            case 3: case 4: case 5: case 6:
                return same("build(" + kind + ", " + x + ")", fast.build(kind, x), slow.build(kind, x)) && spellAll();
            case 7: return same("own()", fast.own(), slow.own());
            case 8: return same("add(" + t + ", " + s + ")", fast.add(t, s), slow.add(t, s));
            case 9: case 10: return same("holds(" + kind + ", " + x + ")", fast.holds(kind, x), slow.holds(kind, x))
                    && same("broken(0)", fast.broken(0), slow.broken(0)) && same("broken(1)", fast.broken(1), slow.broken(1));
            case 11: return same("broken(" + k + ")", fast.broken(k), slow.broken(k));
            case 12: return same("cost()", fast.cost(), slow.cost());
            case 13: return same("mean()", fast.mean(), slow.mean());
            case 14: return same("length(" + t + ")", fast.length(t), slow.length(t));
            case 15: return same("word(" + t + ", " + k + ")", fast.word(t, k), slow.word(t, k));
            case 16: return same("room()", fast.room(), slow.room());
            case 17: return same("full()", fast.full(), slow.full());
            case 18: return same("canon()", fast.canon(), slow.canon()) && spellAll();
            case 19: {
                int u = near(slow.counts.size());
                return same("node(" + t + ", " + u + ")", fast.node(t, u), slow.node(t, u));
            }
            case 20: case 21: return same("write(" + t + ")", fast.write(t), slow.write(t));
            case 22: return same("put(" + s + ")", fast.put(s), slow.put(s));
            case 23: return any(3) != 0 || same("wipe()", fast.wipe(), slow.wipe());
            case 24: return same("line(" + k + ")", fast.line(k), slow.line(k));
            case 25: return readAll();
            case 26: return same("item(" + k + ")", fast.item(k), slow.item(k));
            case 27: return same("grow()", fast.grow(), slow.grow());
            case 28: case 29: return same("send(" + t + ")", fast.send(t), slow.send(t));
            case 30: return same("hear()", fast.hear(), slow.hear());
            case 31: return same("grown(" + t + ")", fast.grown(t), slow.grown(t));
            case 32: return stepAll();
            case 33: return same("stepSign(" + k + ")", fast.stepSign(k), slow.stepSign(k));
            case 34: return same("keep(" + place + ")", fast.keep(place), slow.keep(place));
            case 35: return same("back(" + place + ")", fast.back(place), slow.back(place));
            case 36: return same("differs(" + place + ")", fast.differs(place), slow.differs(place));
            case 37: return same("told(" + k + ")", fast.told(k), slow.told(k));
            case 38: return same("price(" + s + ")", fast.price(s), slow.price(s));
            case 39: return same("rank(" + t + ")", fast.rank(t), slow.rank(t));
            case 40: return any(3) != 0 || tell();
            case 41: return tellAgain();
            case 42: return any(2) != 0 || sendMany();
            default: return same("told(4)", fast.told(4), slow.told(4));
        }
    }

    private void run() {
        int style = any(4);
        if (any(20) != 0 && !begin(style)) {
            return;
        }
        for (int turn = 0; turn < 60 && made < CountedChest.MOST_CALLS; turn++) {
            if (!one(style)) {
                return;
            }
        }
    }

    public static void main(String[] args) {
        int from = args.length > 0 ? Integer.parseInt(args[0]) : 1;
        int runs = args.length > 1 ? Integer.parseInt(args[1]) : 1500;
        for (int seed = from; seed < from + runs && wrong < 10; seed++) {
            new RandomRunsTest(seed).run();
        }
        System.out.println(calls + " calls compared, " + wrong + " answers are not as due");
        if (wrong != 0) {
            System.exit(1);
        }
    }
}
