import java.util.ArrayList;
import java.util.Arrays;
import java.util.List;
import java.util.Random;
import java.util.TreeMap;
import java.util.TreeSet;

/**
 * FREE and BOUNDED codes against all ways there are, one by one, with any ROWS left and any
 * continued; their COST against the least of all FREE CODES; and STEPS of codes with many PLACES.
 */
public final class WaysTest extends Asking {
    private static int wrong = 0;
    private static int asked = 0;

    private final int[] prices;
    private final int[] counts;
    private final int bound;
    private final Integer[] ranks;
    private long bestCost;
    private List<int[]> bestWay;
    private String[] bestWords;

    private WaysTest(int[] prices, int[] counts, int bound) {
        this.prices = prices;
        this.counts = counts;
        this.bound = bound;
        ranks = new Integer[counts.length];
        for (int i = 0; i < ranks.length; i++) ranks[i] = i;
        Arrays.sort(ranks, (a, b) -> counts[a] == counts[b] ? a - b : counts[b] - counts[a]);
    }

    /** All ways from a LEVEL on; none that already costs more than the best is followed. */
    private void follow(int level, TreeMap<Integer, TreeSet<String>> open, List<int[]> way, String[] words, int given, long cost) {
        if (given == counts.length) {
            if (cost < bestCost || cost == bestCost && isAhead(way, bestWay)) {
                bestCost = cost;
                bestWay = new ArrayList<>(way);
                bestWords = words.clone();
            }
            return;
        }
        long atLeast = cost;
        for (int r = given; r < counts.length; r++) atLeast += (long) Math.max(level, 1) * counts[ranks[r]];
        if (atLeast > bestCost || open.isEmpty()) return;
        List<String> rows = new ArrayList<>(open.getOrDefault(level, new TreeSet<>()));
        int mostWords = level == 0 ? 0 : Math.min(rows.size(), counts.length - given);
        for (int k = 0; k <= mostWords; k++) {
            long more = 0;
            for (int q = 0; q < k; q++) {
                words[ranks[given + q]] = rows.get(q);
                more += (long) level * counts[ranks[given + q]];
            }
            for (int m = 0; m <= rows.size() - k; m++) {
                if (m > 0 && rows.get(k + m - 1).length() >= bound) break;
                TreeMap<Integer, TreeSet<String>> next = new TreeMap<>();
                open.forEach((l, set) -> {
                    if (l > level) next.put(l, new TreeSet<>(set));
                });
                for (int q = 0; q < m; q++) {
                    for (int s = 0; s < prices.length; s++) {
                        next.computeIfAbsent(level + prices[s], l -> new TreeSet<>()).add(rows.get(k + q) + s);
                    }
                }
                way.add(new int[] {k, m});
                follow(level + 1, next, way, words, given + k, cost + more);
                way.remove(way.size() - 1);
            }
        }
    }

    private static boolean isAhead(List<int[]> one, List<int[]> other) {
        if (other == null) return true;
        for (int i = 0; i < one.size() && i < other.size(); i++) {
            if (one.get(i)[0] != other.get(i)[0]) return one.get(i)[0] > other.get(i)[0];
            if (one.get(i)[1] != other.get(i)[1]) return one.get(i)[1] < other.get(i)[1];
        }
        return false;
    }

    /** The least COST of the THINGS of a set behind one ROW, dealt to SIGNS in any manner. */
    private long leastFree(int set, long[] memo, boolean first) {
        if (!first && Integer.bitCount(set) == 1) return 0;
        if (!first && memo[set] >= 0) return memo[set];
        long best = Long.MAX_VALUE;
        int n = counts.length;
        int many = 1;
        for (int q = 0; q < Integer.bitCount(set); q++) many *= prices.length;
        for (int deal = 0; deal < many; deal++) {
            int[] parts = new int[prices.length];
            int d = deal;
            long cost = 0;
            for (int t = 0; t < n; t++) {
                if ((set >> t & 1) == 0) continue;
                parts[d % prices.length] |= 1 << t;
                cost += (long) counts[t] * prices[d % prices.length];
                d /= prices.length;
            }
            boolean alone = false;
            for (int part : parts) alone |= part == set;
            if (alone && Integer.bitCount(set) > 1) continue;
            for (int part : parts) if (part != 0) cost += leastFree(part, memo, false);
            best = Math.min(best, cost);
        }
        if (!first) memo[set] = best;
        return best;
    }

    private void look() {
        CountedChest x = new CountedChest();
        for (int p : prices) x.sign(p);
        for (int c : counts) x.thing(Float.floatToRawIntBits(c));
        long got = bound < 25 ? x.build(1, bound) : x.build(0, 0);
        long longest = 0;
        for (int c : counts) longest += c;
        bestCost = bound < 25 ? longest * bound : leastOfAll(got);
        TreeMap<Integer, TreeSet<String>> open = new TreeMap<>();
        open.put(0, new TreeSet<>(List.of("")));
        follow(0, open, new ArrayList<>(), new String[counts.length], 0, 0);
        asked++;
        String words = bestWay == null ? "none" : String.join(" ", bestWords);
        String built = got < 0 ? "none" : wordsOf(x);
        if (got != (bestWay == null ? -5 : bestCost) || !built.equals(words)) {
            wrong++;
            System.out.println("prices " + Arrays.toString(prices) + " counts " + Arrays.toString(counts) + " bound " + bound
                    + ": " + got + " " + built + ", due is " + bestCost + " " + words);
        }
    }

    private long leastOfAll(long got) {
        long[] memo = new long[1 << counts.length];
        Arrays.fill(memo, -1);
        long least = leastFree((1 << counts.length) - 1, memo, true);
        if (least != got) {
            wrong++;
            System.out.println("the least of all free codes is " + least + ", not " + got);
        }
        return least;
    }

    private static int[] draw(Random random, int size, int most) {
        int[] drawn = new int[size];
        for (int i = 0; i < size; i++) drawn[i] = 1 + random.nextInt(most);
        return drawn;
    }

    /** Words of one chain of SIGN 0, each PLACE of which SIGN 1 leaves for a chain of its own. */
    private static List<String> chains(Random random) {
        int size = 3 + random.nextInt(20);
        List<String> words = new ArrayList<>();
        words.add("0".repeat(size));
        int most = 1 + random.nextInt(14);
        for (int i = 0; i < size; i++) {
            String row = "0".repeat(i) + "1";
            int more = random.nextInt(Math.max(1, Math.min(most, 24 - i)));
            words.add(row + "0".repeat(more));
            if (words.size() + size - i < 24 && more > 1) {
                words.add(row + "0".repeat(random.nextInt(more)) + "1");
            }
        }
        return words;
    }

    private static void lookAtSteps(Random random) {
        CountedChest x = new CountedChest();
        SlowChest y = new SlowChest();
        for (int s = 0; s < 2; s++) {
            x.sign(1);
            y.sign(1);
        }
        List<String> words = chains(random);
        for (int t = 0; t < words.size(); t++) {
            x.thing(Float.floatToRawIntBits(1));
            y.thing(Float.floatToRawIntBits(1));
        }
        x.own();
        y.own();
        for (int t = 0; t < words.size(); t++) {
            for (char c : words.get(t).toCharArray()) {
                x.add(t, c - '0');
                y.add(t, c - '0');
            }
        }
        int size = y.step();
        boolean same = x.told(4) == y.told(4) && x.step() == size && x.told(5) == y.told(5) && x.full() == y.full();
        for (int k = -1; k <= Math.max(size, 0); k++) same &= x.stepSign(k) == y.stepSign(k);
        asked++;
        if (!same) {
            wrong++;
            System.out.println("step of " + words + ": " + x.step() + " with " + x.told(5) + " sets, due is " + size + " with " + y.told(5));
        }
    }

    /** As many THINGS as there may be, against the slow chest. */
    private static void lookAtMany(Random random, int turn) {
        boolean unlike = turn % 2 == 0;
        int[] prices = draw(random, 2 + random.nextInt(3), unlike ? 3 : 1);
        int[] counts = new int[unlike ? 8 - random.nextInt(2) : 24 - random.nextInt(5)];
        double by = 1 + random.nextInt(5) * 0.2;
        for (int t = 0; t < counts.length; t++) counts[t] = (int) Math.pow(by, random.nextInt(16)) + random.nextInt(3);
        for (int kind = 0; kind < 4; kind++) {
            CountedChest x = chest(prices, counts);
            SlowChest y = new SlowChest();
            for (int p : prices) y.sign(p);
            for (int c : counts) y.thing(bits(c));
            int a = kind == 1 ? 2 + random.nextInt(8) : 1;
            long due = y.build(kind, a);
            long got = x.build(kind, a);
            String words = due < 0 ? "" : wordsOf(x);
            asked++;
            if (got != due || due >= 0 && !words.equals(String.join(" ", y.hand))) {
                wrong++;
                System.out.println("prices " + y.prices + " counts " + y.counts + " kind " + kind + " x " + a + ": " + got + " " + words
                        + ", due is " + due + " " + y.hand);
            }
        }
    }

    public static void main(String[] args) {
        Random random = new Random(17);
        for (int turn = 0; turn < 1200; turn++) {
            int signs = 2 + random.nextInt(3);
            int most = turn % 3 == 0 ? 2 : turn % 3 == 1 ? 5 : 40;
            new WaysTest(draw(random, signs, 3), draw(random, 1 + random.nextInt(signs == 2 ? 5 : 4), most), 99).look();
            int[] ones = new int[signs];
            Arrays.fill(ones, 1);
            int things = 1 + random.nextInt(signs == 2 ? 6 : 5);
            new WaysTest(ones, draw(random, things, most), 99).look();
            new WaysTest(ones, draw(random, things, most), 1 + random.nextInt(4)).look();
        }
        for (int turn = 0; turn < 60; turn++) lookAtSteps(random);
        for (int turn = 0; turn < 200; turn++) lookAtMany(random, turn);
        System.out.println(asked + " codes looked at, " + wrong + " are not as due");
        if (wrong != 0) {
            System.exit(1);
        }
    }
}
