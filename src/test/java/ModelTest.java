import java.math.BigInteger;
import java.util.ArrayList;
import java.util.List;

/** Long runs of calls, each answer compared with a slow model that follows the document's definitions word by word. */
public final class ModelTest {

    private static final int[] ODD_NUMBERS = {
        Integer.MIN_VALUE, Integer.MIN_VALUE + 1, -65536, -257, -256, -255, -2, -1, 0, 1, 2, 39, 40, 41,
        127, 128, 254, 255, 256, 257, 511, 65536, 53687092, 107374182, 1 << 29, Integer.MAX_VALUE - 1, Integer.MAX_VALUE
    };

    private static long seed;

    private final List<Integer> baskets = new ArrayList<>();

    public static void main(String[] args) {
        for (int run = 1; run <= 60; run++) {
            seed = run;
            new ModelTest().play(run);
        }
        Due.end();
    }

    /** A fixed sequence of numbers, the same in every run of the test. */
    private static int pick(int bound) {
        seed = seed * 6364136223846793005L + 1442695040888963407L;
        return (int) ((seed >>> 33) % bound);
    }

    private static int oddOr(int usual) {
        return pick(8) == 0 ? ODD_NUMBERS[pick(ODD_NUMBERS.length)] : usual;
    }

    private void play(int run) {
        ItemSets x = new ItemSets();
        // Few drops fill the object, many keep it small; a thick mask makes sets with many goods often.
        int drops = run % 3;
        int mask = run % 2 == 0 ? 0 : pick(256);
        for (int call = 1; call <= 512; call++) {
            String at = "run " + run + ", call " + call + ": ";
            int kind = pick(14 + drops);
            if (kind < 4) {
                changeByAdd(x, at, oddOr(pick(256) | mask));
            } else if (kind < 5 || kind >= 14) {
                changeByDrop(x, at, oddOr(pick(baskets.size() + 1)));
            } else {
                ask(x, at, kind, oddOr(1 + pick(baskets.size() / 2 + 2)));
            }
        }
    }

    private void changeByAdd(ItemSets x, String at, int basket) {
        int want = -1;
        if (baskets.size() < 40) {
            baskets.add(Math.floorMod(basket, 256));
            want = baskets.size();
        }
        Due.is(at + "add(" + basket + ")", x.add(basket), want);
    }

    private void changeByDrop(ItemSets x, String at, int number) {
        int want = -1;
        if (number >= 0 && number < baskets.size()) {
            baskets.remove(number);
            want = baskets.size();
        }
        Due.is(at + "drop(" + number + ")", x.drop(number), want);
    }

    private void ask(ItemSets x, String at, int kind, int m) {
        int set = oddOr(pick(256) & pick(256));
        int percent = oddOr(pick(120) - 5);
        switch (kind) {
            case 5 -> Due.is(at + "support(" + set + ")", x.support(set), support(Math.floorMod(set, 256)));
            case 6 -> Due.is(at + "often(" + m + ")", x.often(m), often(m).size());
            case 7 -> Due.is(at + "full(" + m + ")", x.full(m), full(m));
            case 8 -> Due.is(at + "largest(" + m + ")", x.largest(m), largest(m));
            case 9 -> Due.is(at + "size(" + m + ")", x.size(m), size(m));
            case 10, 11 -> Due.is(at + "next(" + m + ", " + set + ")", x.next(m, set), next(m, set));
            case 12 -> Due.is(at + "closure(" + set + ")", x.closure(set), closure(Math.floorMod(set, 256)));
            default -> Due.is(at + "rules(" + m + ", " + percent + ")", x.rules(m, percent), rules(m, percent));
        }
    }

    private int support(int set) {
        int count = 0;
        for (int basket : baskets) {
            if ((basket | set) == basket) {
                count++;
            }
        }
        return count;
    }

    private List<Integer> often(int m) {
        List<Integer> sets = new ArrayList<>();
        for (int set = 1; set < 256 && m >= 1; set++) {
            if (support(set) >= m) {
                sets.add(set);
            }
        }
        return sets;
    }

    private static List<Integer> largerThan(int set) {
        List<Integer> sets = new ArrayList<>();
        for (int other = 0; other < 256; other++) {
            if (other != set && (other | set) == other) {
                sets.add(other);
            }
        }
        return sets;
    }

    private int full(int m) {
        int count = 0;
        for (int set : often(m)) {
            int own = support(set);
            if (largerThan(set).stream().noneMatch(larger -> support(larger) == own)) {
                count++;
            }
        }
        return count;
    }

    private int largest(int m) {
        List<Integer> often = often(m);
        int count = 0;
        for (int set : often) {
            if (largerThan(set).stream().noneMatch(often::contains)) {
                count++;
            }
        }
        return count;
    }

    private int size(int m) {
        return often(m).stream().mapToInt(Integer::bitCount).max().orElse(0);
    }

    private int next(int m, int from) {
        return often(m).stream().mapToInt(set -> set).filter(set -> set >= from).min().orElse(-1);
    }

    private int closure(int set) {
        int own = support(set);
        if (own == 0) {
            return 255;
        }
        int best = set;
        for (int larger : largerThan(set)) {
            if (support(larger) == own && Integer.bitCount(larger) > Integer.bitCount(best)) {
                best = larger;
            }
        }
        return best;
    }

    private int rules(int m, int percent) {
        int[] supports = new int[256];
        for (int set = 0; set < 256; set++) {
            supports[set] = support(set);
        }
        int count = 0;
        for (int x = 1; x < 256; x++) {
            for (int y = 1; y < 256; y++) {
                boolean pair = (x & y) == 0 && m >= 1 && supports[x | y] >= m;
                if (pair && reaches(supports[x | y], percent, supports[x])) {
                    count++;
                }
            }
        }
        return count;
    }

    private static boolean reaches(int both, int percent, int alone) {
        BigInteger left = BigInteger.valueOf(100).multiply(BigInteger.valueOf(both));
        BigInteger right = BigInteger.valueOf(percent).multiply(BigInteger.valueOf(alone));
        return left.compareTo(right) >= 0;
    }
}
