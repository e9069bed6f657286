import java.util.ArrayList;
import java.util.Arrays;
import java.util.List;

/** Objects made for a test, and what they hold. */
final class Made {

    private Made() {
    }

    static ItemSets with(int... baskets) {
        ItemSets x = new ItemSets();
        for (int basket : baskets) {
            x.add(basket);
        }
        return x;
    }

    static ItemSets of(int times, int basket) {
        int[] baskets = new int[times];
        Arrays.fill(baskets, basket);
        return with(baskets);
    }

    /** The baskets 1 to count, so that each number has a basket of its own. */
    static ItemSets upTo(int count) {
        ItemSets x = new ItemSets();
        for (int basket = 1; basket <= count; basket++) {
            x.add(basket);
        }
        return x;
    }

    /** Empties the object from the front, and tells its baskets in order: some 370 calls for 40 baskets. */
    static String emptied(ItemSets x) {
        List<Integer> baskets = new ArrayList<>();
        int[] before = supportsOfGoods(x);
        while (baskets.size() < 50 && x.drop(0) != -1) {
            int[] after = supportsOfGoods(x);
            int basket = 0;
            for (int good = 0; good < 8; good++) {
                basket += (before[good] - after[good]) << good;
            }
            baskets.add(basket);
            before = after;
        }
        return baskets.toString();
    }

    private static int[] supportsOfGoods(ItemSets x) {
        int[] supports = new int[8];
        for (int good = 0; good < 8; good++) {
            supports[good] = x.support(1 << good);
        }
        return supports;
    }
}
