import java.util.ArrayList;
import java.util.Arrays;
import java.util.Collections;
import java.util.HashMap;
import java.util.HashSet;
import java.util.List;
import java.util.Map;
import java.util.Set;
import java.util.TreeSet;

/**
 * The document once more, as plainly and slowly as it can be told: WORDS are texts of the signs
 * '0' to '3', ways are looked at one by one. It shares nothing with WordChest but the document.
 */
final class SlowChest {
    static final int UNKNOWN = -1, OUTSIDE = -2, STATE = -3, FULL = -4, NO = -5, NONE = -6, SPENT = -7;

    final List<Integer> prices = new ArrayList<>();
    final List<Integer> counts = new ArrayList<>();
    List<String> hand;
    boolean told;
    int[] growing;
    String line = "";
    List<Integer> items = new ArrayList<>();
    int broken0 = NONE;
    int broken1 = NONE;
    String stepFound;
    int sets;
    final Map<Integer, List<String>> chest = new HashMap<>();

    int sign(int price) {
        if (price < 1 || price > 9) return OUTSIDE;
        if (prices.size() == 4) return FULL;
        prices.add(price);
        gone();
        line = "";
        chest.clear();
        return prices.size() - 1;
    }

    private void gone() {
        hand = null;
        told = false;
        growing = null;
    }

    private static int whole(int bits) {
        float f = Float.intBitsToFloat(bits);
        return Float.isNaN(f) || f < 1 || f > 1000000 ? 0 : (int) Math.floor(f);
    }

    int thing(int count) {
        int c = whole(count);
        if (c == 0) return OUTSIDE;
        if (counts.size() == 24) return FULL;
        counts.add(c);
        gone();
        return counts.size() - 1;
    }

    int count(int thing, int count) {
        if (noThing(thing)) return UNKNOWN;
        int c = whole(count);
        return c == 0 ? OUTSIDE : counts.set(thing, c);
    }

    private boolean noThing(int t) {
        return t < 0 || t >= counts.size();
    }

    private boolean noSign(int s) {
        return s < 0 || s >= prices.size();
    }

    private boolean outside(int kind, int x) {
        return kind < 0 || kind > 3 || kind == 1 && (x < 1 || x > 24) || kind == 3 && noSign(x);
    }

    private boolean unlike() {
        return new HashSet<>(prices).size() > 1;
    }

    private boolean state(int kind) {
        if (prices.size() < 2 || counts.isEmpty()) return true;
        if (kind == 0 && unlike() && (Collections.max(prices) > 3 || counts.size() > 8)) return true;
        return kind == 1 && Collections.max(prices) > 1;
    }

    long build(int kind, int x) {
        if (outside(kind, x)) return OUTSIDE;
        if (state(kind)) return STATE;
        List<String> made = null;
        if (kind == 0) made = levels(counts, 99);
        if (kind == 1) made = levels(counts, x);
        if (kind == 2) made = ordered();
        if (kind == 3) made = ended(x);
        if (made == null) return NO;
        gone();
        hand = made;
        return cost();
    }

    static List<Integer> ranks(List<Integer> by) {
        List<Integer> r = new ArrayList<>();
        for (int i = 0; i < by.size(); i++) r.add(i);
        r.sort((a, b) -> by.get(a).equals(by.get(b)) ? a - b : by.get(b) - by.get(a));
        return r;
    }

    // ---- LEVELS: any k, any m, at each

    private long[] tail;
    private Map<Long, Long> memo;
    private int[] per;
    private int lastLevel;

    private List<String> levels(List<Integer> by, int longest) {
        int n = by.size();
        List<Integer> r = ranks(by);
        tail = new long[n + 1];
        for (int q = 1; q <= n; q++) tail[q] = tail[q - 1] + by.get(r.get(n - q));
        memo = new HashMap<>();
        per = new int[4];
        boolean unlike = unlike();
        for (int p : prices) per[unlike ? p : 1]++;
        lastLevel = Math.min(longest, unlike ? 26 : 24);
        int a = per[1], b = per[2], c = per[3], rem = n;
        if (least(1, cut(a, n), cut(b, n), cut(c, n), n) == Long.MAX_VALUE) return null;
        String[] words = new String[n];
        TreeSet<String> openNow = new TreeSet<>();
        Map<Integer, TreeSet<String>> open = new HashMap<>();
        continued("", 0, open, unlike);
        for (int level = 1; rem > 0; level++) {
            openNow = open.getOrDefault(level, new TreeSet<>());
            a = cut(openNow.size(), rem);
            b = cut(open.getOrDefault(level + 1, new TreeSet<>()).size(), rem);
            c = cut(open.getOrDefault(level + 2, new TreeSet<>()).size(), rem);
            int[] km = choose(level, a, b, c, rem);
            List<String> rows = new ArrayList<>(openNow);
            for (int k = 0; k < km[0]; k++) words[r.get(n - rem + k)] = rows.get(k);
            rem -= km[0];
            for (int m = 0; m < km[1]; m++) continued(rows.get(km[0] + m), level, open, unlike);
        }
        return new ArrayList<>(Arrays.asList(words));
    }

    private void continued(String row, int level, Map<Integer, TreeSet<String>> open, boolean unlike) {
        for (int s = 0; s < prices.size(); s++) {
            int to = level + (unlike ? prices.get(s) : 1);
            open.computeIfAbsent(to, q -> new TreeSet<>()).add(row + s);
        }
    }

    private static int cut(int open, int rem) {
        return Math.min(open, rem);
    }

    private long with(int level, int a, int b, int c, int rem, int[] km) {
        int left = rem - km[0];
        if (left == 0) return 0;
        long rest = least(level + 1, cut(b + per[1] * km[1], left), cut(c + per[2] * km[1], left), cut(per[3] * km[1], left), left);
        return rest == Long.MAX_VALUE ? rest : rest + tail[left];
    }

    private int[] choose(int level, int a, int b, int c, int rem) {
        long best = least(level, a, b, c, rem);
        for (int k = Math.min(a, rem); k >= 0; k--) {
            for (int m = 0; m <= (level < lastLevel ? a - k : 0); m++) {
                int[] km = {k, m};
                if (with(level, a, b, c, rem, km) == best) return km;
            }
        }
        throw new IllegalStateException();
    }

    private long least(int level, int a, int b, int c, int rem) {
        if (level > lastLevel || a + b + c == 0) return Long.MAX_VALUE;
        long key = (((level * 32L + a) * 32 + b) * 32 + c) * 32 + rem;
        Long known = memo.get(key);
        if (known != null) return known;
        long best = Long.MAX_VALUE;
        for (int k = 0; k <= Math.min(a, rem); k++) {
            for (int m = 0; m <= (level < lastLevel ? a - k : 0); m++) {
                best = Math.min(best, with(level, a, b, c, rem, new int[] {k, m}));
            }
        }
        memo.put(key, best);
        return best;
    }

    // ---- ORDERED: each NODE's deals one by one

    private final Map<Integer, Long> nodeMemo = new HashMap<>();

    private List<String> ordered() {
        String[] words = new String[counts.size()];
        if (words.length == 1) {
            words[0] = "" + prices.indexOf(Collections.min(prices));
        } else {
            nodeMemo.clear();
            dealt(0, words.length - 1, "", words);
        }
        return new ArrayList<>(Arrays.asList(words));
    }

    private void dealt(int i, int j, String row, String[] words) {
        long best = leastNode(i, j);
        for (int[] deal : deals(j - i + 1, prices.size())) {
            if (costOf(deal, i) != best) continue;
            int at = i;
            for (int s = 0; s < deal.length; s++) {
                if (deal[s] == 1) words[at] = row + s;
                if (deal[s] > 1) dealt(at, at + deal[s] - 1, row + s, words);
                at += deal[s];
            }
            return;
        }
        throw new IllegalStateException();
    }

    private long costOf(int[] deal, int i) {
        long sum = 0;
        int at = i;
        for (int s = 0; s < deal.length; s++) {
            for (int q = at; q < at + deal[s]; q++) sum += (long) counts.get(q) * prices.get(s);
            if (deal[s] > 1) sum += leastNode(at, at + deal[s] - 1);
            at += deal[s];
        }
        return sum;
    }

    private long leastNode(int i, int j) {
        if (i == j) return 0;
        Long known = nodeMemo.get(i * 100 + j);
        if (known != null) return known;
        long best = Long.MAX_VALUE;
        for (int[] deal : deals(j - i + 1, prices.size())) best = Math.min(best, costOf(deal, i));
        nodeMemo.put(i * 100 + j, best);
        return best;
    }

    private static final Map<Integer, List<int[]>> DEALS = new HashMap<>();

    /** All deals, from SIGN 0 on the lesser numbers first, none of all to one. */
    private static List<int[]> deals(int n, int signs) {
        return DEALS.computeIfAbsent(n * 10 + signs, q -> {
            List<int[]> all = new ArrayList<>();
            deal(new int[signs], 0, n, n, all);
            return all;
        });
    }

    private static void deal(int[] so, int s, int left, int n, List<int[]> all) {
        if (s == so.length) {
            if (left == 0) all.add(so.clone());
            return;
        }
        for (int q = 0; q <= left && q < n; q++) {
            so[s] = q;
            deal(so, s + 1, left - q, n, all);
        }
        so[s] = 0;
    }

    // ---- ENDED

    private List<String> ended(int x) {
        int n = counts.size();
        List<List<String>> byPrice = new ArrayList<>();
        List<String> rows = new ArrayList<>();
        byPrice.add(List.of(""));
        rows.add("");
        for (int p = 1; rows.size() < n; p++) {
            TreeSet<String> here = new TreeSet<>();
            for (int s = 0; s < prices.size(); s++) {
                if (s == x || prices.get(s) > p) continue;
                for (String r : byPrice.get(p - prices.get(s))) here.add(r + s);
            }
            byPrice.add(new ArrayList<>(here));
            rows.addAll(here);
        }
        String[] words = new String[n];
        List<Integer> r = ranks(counts);
        for (int k = 0; k < n; k++) words[r.get(k)] = rows.get(k) + x;
        return new ArrayList<>(Arrays.asList(words));
    }

    int own() {
        if (prices.size() < 2 || counts.isEmpty()) return STATE;
        gone();
        hand = new ArrayList<>(Collections.nCopies(counts.size(), ""));
        told = true;
        return counts.size();
    }

    int add(int thing, int sign) {
        if (noThing(thing) || noSign(sign)) return UNKNOWN;
        if (hand == null || !told) return STATE;
        if (hand.get(thing).length() == 24) return FULL;
        hand.set(thing, hand.get(thing) + sign);
        return hand.get(thing).length();
    }

    int holds(int kind, int x) {
        if (outside(kind, x)) return OUTSIDE;
        if (hand == null) return STATE;
        for (int i = 0; i < hand.size(); i++) {
            String w = hand.get(i);
            boolean alone = w.isEmpty() || kind == 1 && w.length() > x || kind == 3 && w.indexOf("" + x) != w.length() - 1;
            if (alone) {
                broken0 = i;
                broken1 = NONE;
                return 0;
            }
            for (int j = i + 1; j < hand.size(); j++) {
                String v = hand.get(j);
                if (v.startsWith(w) || w.startsWith(v) || kind == 2 && w.compareTo(v) > 0) {
                    broken0 = i;
                    broken1 = j;
                    return 0;
                }
            }
        }
        return 1;
    }

    int broken(int which) {
        return which == 0 ? broken0 : which == 1 ? broken1 : OUTSIDE;
    }

    long cost() {
        if (hand == null) return STATE;
        long sum = 0;
        for (int i = 0; i < hand.size(); i++) {
            for (char s : hand.get(i).toCharArray()) sum += (long) counts.get(i) * prices.get(s - '0');
        }
        return sum;
    }

    long mean() {
        if (hand == null) return STATE;
        long sum = 0;
        for (int c : counts) sum += c;
        return Double.doubleToLongBits((double) cost() / (double) sum);
    }

    int length(int thing) {
        return noThing(thing) ? UNKNOWN : hand == null ? STATE : hand.get(thing).length();
    }

    int word(int thing, int k) {
        if (noThing(thing)) return UNKNOWN;
        if (hand == null) return STATE;
        return k < 0 || k >= hand.get(thing).length() ? NONE : hand.get(thing).charAt(k) - '0';
    }

    long room() {
        if (hand == null) return STATE;
        double sum = 0.0;
        for (String w : hand) {
            double one = 1.0;
            for (int k = 0; k < w.length(); k++) one /= prices.size();
            sum += one;
        }
        return Double.doubleToLongBits(sum);
    }

    static boolean free(List<String> code) {
        for (int i = 0; i < code.size(); i++) {
            if (code.get(i).isEmpty()) return false;
            for (int j = 0; j < code.size(); j++) {
                if (i != j && code.get(j).startsWith(code.get(i))) return false;
            }
        }
        return true;
    }

    private static Set<String> places(List<String> code) {
        Set<String> places = new TreeSet<>();
        for (String w : code) {
            for (int k = 0; k < w.length(); k++) places.add(w.substring(0, k));
        }
        return places;
    }

    int full() {
        if (hand == null) return STATE;
        if (!free(hand)) return NO;
        Set<String> places = places(hand);
        for (String p : places) {
            for (int s = 0; s < prices.size(); s++) {
                if (!places.contains(p + s) && !hand.contains(p + s)) return 0;
            }
        }
        return 1;
    }

    int canon() {
        if (hand == null) return STATE;
        List<Integer> r = new ArrayList<>();
        for (int i = 0; i < hand.size(); i++) r.add(i);
        r.sort((a, b) -> hand.get(a).length() == hand.get(b).length() ? a - b : hand.get(a).length() - hand.get(b).length());
        List<String> made = new ArrayList<>(hand);
        String ahead = null;
        for (int t : r) {
            int n = hand.get(t).length();
            if (n == 0) return NO;
            String row = ahead == null ? "0".repeat(n) : firstBehind(ahead, n);
            if (row == null) return NO;
            made.set(t, row);
            ahead = row;
        }
        hand = made;
        told = false;
        growing = null;
        return 1;
    }

    /** Of a length at least the other's: at the last SIGN that can be greater it is by one, then 0 on. */
    private String firstBehind(String ahead, int n) {
        for (int k = ahead.length() - 1; k >= 0; k--) {
            int s = ahead.charAt(k) - '0' + 1;
            if (s < prices.size()) return ahead.substring(0, k) + s + "0".repeat(n - k - 1);
        }
        return null;
    }

    long node(int i, int j) {
        if (noThing(i) || noThing(j) || i > j) return UNKNOWN;
        if (prices.size() < 2) return STATE;
        nodeMemo.clear();
        return leastNode(i, j);
    }

    int write(int thing) {
        if (noThing(thing)) return UNKNOWN;
        if (hand == null) return STATE;
        if (line.length() + hand.get(thing).length() > 200) return FULL;
        line += hand.get(thing);
        return line.length();
    }

    int put(int sign) {
        if (noSign(sign)) return UNKNOWN;
        if (line.length() == 200) return FULL;
        line += sign;
        return line.length();
    }

    int wipe() {
        int had = line.length();
        line = "";
        return had;
    }

    int line(int i) {
        return i < 0 || i >= line.length() ? NONE : line.charAt(i) - '0';
    }

    int read() {
        if (hand == null) return STATE;
        if (!free(hand)) return NO;
        return reading(hand, null);
    }

    private int reading(List<String> code, List<Integer> grows) {
        items = new ArrayList<>();
        String begun = "";
        for (int i = 0; i < line.length(); i++) {
            begun += line.charAt(i);
            boolean goesOn = false;
            for (String w : code) goesOn |= w.startsWith(begun);
            if (!goesOn) return -100 - i;
            int t = code.indexOf(begun);
            if (t >= 0) {
                items.add(t);
                begun = "";
                if (grows != null) {
                    grows.set(t, grows.get(t) + 1);
                    code = levels(grows, 99);
                }
            }
        }
        return begun.isEmpty() ? items.size() : -100 - line.length();
    }

    int item(int k) {
        return k < 0 || k >= items.size() ? NONE : items.get(k);
    }

    private List<Integer> ones() {
        return new ArrayList<>(Collections.nCopies(counts.size(), 1));
    }

    int grow() {
        if (state(0)) return STATE;
        gone();
        growing = new int[counts.size()];
        Arrays.fill(growing, 1);
        hand = levels(ones(), 99);
        line = "";
        return counts.size();
    }

    int send(int thing) {
        if (noThing(thing)) return UNKNOWN;
        if (hand == null || growing == null) return STATE;
        if (write(thing) == FULL) return FULL;
        growing[thing]++;
        List<Integer> by = new ArrayList<>();
        for (int g : growing) by.add(g);
        hand = levels(by, 99);
        return line.length();
    }

    int hear() {
        if (state(0)) return STATE;
        return reading(levels(ones(), 99), ones());
    }

    int grown(int thing) {
        return noThing(thing) ? UNKNOWN : hand == null || growing == null ? STATE : growing[thing];
    }

    int step() {
        if (hand == null) return STATE;
        if (!free(hand)) return NO;
        stepFound = null;
        Set<String> places = places(hand);
        List<Set<String>> all = new ArrayList<>();
        Set<Set<String>> known = new HashSet<>();
        List<String> rows = new ArrayList<>();
        all.add(places);
        known.add(places);
        rows.add("");
        sets = 1;
        if (places.size() == 1) stepFound = "";
        for (int at = 0; at < all.size() && stepFound == null; at++) {
            for (int s = 0; s < prices.size() && stepFound == null; s++) {
                Set<String> to = new TreeSet<>();
                boolean nowhere = false;
                for (String p : all.get(at)) {
                    if (hand.contains(p + s)) to.add("");
                    else if (places.contains(p + s)) to.add(p + s);
                    else nowhere = true;
                }
                if (nowhere || known.contains(to)) continue;
                if (all.size() == 2000) return SPENT;
                all.add(to);
                known.add(to);
                rows.add(rows.get(at) + s);
                sets = all.size();
                if (to.size() == 1 && to.contains("")) stepFound = rows.get(at) + s;
            }
        }
        return stepFound == null ? NONE : stepFound.length();
    }

    int stepSign(int k) {
        return stepFound == null || k < 0 || k >= stepFound.length() ? NONE : stepFound.charAt(k) - '0';
    }

    int keep(int place) {
        if (place < 0 || place > 7) return UNKNOWN;
        if (hand == null) return STATE;
        chest.put(place, new ArrayList<>(hand));
        return 1;
    }

    int back(int place) {
        if (!chest.containsKey(place)) return UNKNOWN;
        if (chest.get(place).size() != counts.size()) return STATE;
        gone();
        hand = new ArrayList<>(chest.get(place));
        return 1;
    }

    int differs(int place) {
        if (!chest.containsKey(place)) return UNKNOWN;
        if (hand == null) return STATE;
        List<String> there = chest.get(place);
        for (int i = 0; i < there.size(); i++) {
            if (!there.get(i).equals(hand.get(i))) return i;
        }
        return NONE;
    }

    int told(int what) {
        switch (what) {
            case 0: return prices.size();
            case 1: return counts.size();
            case 2: return line.length();
            case 3: return hand == null ? 0 : 1;
            case 4: return hand == null || !free(hand) ? 0 : places(hand).size();
            case 5: return sets;
            case 6: return chest.size();
            default: return OUTSIDE;
        }
    }

    int price(int sign) {
        return noSign(sign) ? UNKNOWN : prices.get(sign);
    }

    int rank(int k) {
        return noThing(k) ? UNKNOWN : ranks(counts).get(k);
    }
}
