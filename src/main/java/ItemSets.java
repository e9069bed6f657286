/** Baskets of goods, and which goods are often bought together. A set of goods is the sum of 2^g over its goods g. */
public final class ItemSets {

    private static final int GOODS = 8;
    private static final int ALL_GOODS = 255;
    private static final int MOST_BASKETS = 40;

    private final int[] baskets = new int[MOST_BASKETS];
    private int held;

    public ItemSets() {
        held = 0;
    }

    public int add(int basket) {
        if (held >= MOST_BASKETS) {
            return -1;
        }
        baskets[held] = basket & ALL_GOODS;
        held++;
        return held;
    }

    public int drop(int number) {
        if (number < 0 || number >= held) {
            return -1;
        }
        for (int i = number + 1; i < held; i++) {
            baskets[i - 1] = baskets[i];
        }
        held--;
        return held;
    }

    public int support(int set) {
        int goods = set & ALL_GOODS;
        int count = 0;
        for (int i = 0; i < held; i++) {
            if (hasAll(baskets[i], goods)) {
                count++;
            }
        }
        return count;
    }

    public int often(int m) {
        int count = 0;
        for (int set = 1; set <= ALL_GOODS; set++) {
            if (isOften(set, m)) {
                count++;
            }
        }
        return count;
    }

    public int full(int m) {
        int count = 0;
        for (int set = 1; set <= ALL_GOODS; set++) {
            if (isOften(set, m) && bestLargerSupport(set) < support(set)) {
                count++;
            }
        }
        return count;
    }

    public int largest(int m) {
        int count = 0;
        for (int set = 1; set <= ALL_GOODS; set++) {
            if (isOften(set, m) && bestLargerSupport(set) < m) {
                count++;
            }
        }
        return count;
    }

    public int size(int m) {
        int most = 0;
        for (int set = 1; set <= ALL_GOODS; set++) {
            int goods = goodsIn(set);
            if (goods > most && isOften(set, m)) {
                most = goods;
            }
        }
        return most;
    }

    // from is a number to count on from, not a set: it keeps its high bits and its sign.
    public int next(int m, int from) {
        int first = from < 1 ? 1 : from;
        for (int set = first; set <= ALL_GOODS; set++) {
            if (isOften(set, m)) {
                return set;
            }
        }
        return -1;
    }

    // What all baskets with the set have in common is the closure; with no such basket, all goods are left.
    public int closure(int set) {
        int goods = set & ALL_GOODS;
        int common = ALL_GOODS;
        for (int i = 0; i < held; i++) {
            if (hasAll(baskets[i], goods)) {
                common &= baskets[i];
            }
        }
        return common;
    }

    public int rules(int m, int percent) {
        int count = 0;
        for (int both = 1; both <= ALL_GOODS; both++) {
            if (isOften(both, m)) {
                count += rulesWithin(both, percent);
            }
        }
        return count;
    }

    // y is what x leaves of both, so x alone tells the pair; x below both keeps y from being empty.
    private int rulesWithin(int both, int percent) {
        long reached = 100L * support(both);
        int count = 0;
        for (int x = 1; x < both; x++) {
            // long, because percent may be any int.
            if (hasAll(both, x) && reached >= (long) percent * support(x)) {
                count++;
            }
        }
        return count;
    }

    private boolean isOften(int set, int m) {
        return m >= 1 && support(set) >= m;
    }

    // One good more is enough to look at: further goods never raise the support. -1 if there is no larger set.
    private int bestLargerSupport(int set) {
        int best = -1;
        for (int good = 0; good < GOODS; good++) {
            int larger = set | (1 << good);
            if (larger != set) {
                int reached = support(larger);
                best = reached > best ? reached : best;
            }
        }
        return best;
    }

    private static boolean hasAll(int basket, int goods) {
        return (basket & goods) == goods;
    }

    private static int goodsIn(int set) {
        int count = 0;
        for (int good = 0; good < GOODS; good++) {
            count += (set >> good) & 1;
        }
        return count;
    }
}
