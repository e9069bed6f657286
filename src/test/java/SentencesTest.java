/** A test for each sentence of "Terms" and of the promises, quoted as it stands, with answers worked out by hand. */
public final class SentencesTest {

    public static void main(String[] args) {
        Due.each(
            SentencesTest::termGoods,
            SentencesTest::termSet,
            SentencesTest::termBaskets,
            SentencesTest::termSupport,
            SentencesTest::termOften,
            SentencesTest::termFullAndLargest,
            SentencesTest::newObject,
            SentencesTest::add,
            SentencesTest::drop,
            SentencesTest::support,
            SentencesTest::often,
            SentencesTest::full,
            SentencesTest::largest,
            SentencesTest::size,
            SentencesTest::next,
            SentencesTest::closure,
            SentencesTest::rules,
            SentencesTest::percentLimits);
        Due.end();
    }

    private static void termGoods() {
        Due.says("Terms: GOODS are 0 to 7.");
        ItemSets x = Made.with(255, 129);
        for (int good = 0; good <= 7; good++) {
            Due.is("support of good " + good, x.support(1 << good), good == 0 || good == 7 ? 2 : 1);
        }
        Due.is("size(1)", x.size(1), 8);
        Due.is("often(1)", x.often(1), 255);
        Due.is("often(2)", x.often(2), 3);
    }

    private static void termSet() {
        Due.says("Terms: A SET of goods is written as the sum of 2^g over its goods"
            + " (0 to 255; of an argument only the eight lowest bits are looked at).");
        // The goods 0, 2 and 5: 1 + 4 + 32.
        for (int basket : new int[] {37, 256 + 37, 37 - 256, Integer.MIN_VALUE + 37}) {
            ItemSets x = Made.with(basket);
            String at = " of " + basket;
            for (int good = 0; good <= 7; good++) {
                int want = good == 0 || good == 2 || good == 5 ? 1 : 0;
                Due.is("support of good " + good + at, x.support(1 << good), want);
            }
            Due.is("support(33)" + at, x.support(33), 1);
            Due.is("support(256 + 33)" + at, x.support(256 + 33), 1);
            Due.is("support(256 + 34)" + at, x.support(256 + 34), 0);
            Due.is("closure(0)" + at, x.closure(0), 37);
            Due.is("closure(256 + 4)" + at, x.closure(256 + 4), 37);
            Due.is("next(1, 6)" + at, x.next(1, 6), 32);
            Due.is("next(1, 34)" + at, x.next(1, 34), 36);
            Due.is("next(1, 38)" + at, x.next(1, 38), -1);
            Due.is("size(1)" + at, x.size(1), 3);
        }
    }

    private static void termBaskets() {
        Due.says("Terms: BASKETS are sets of goods; at most 40 are held,"
            + " numbered from 0 in the order in which they were added.");
        Due.same("three baskets, two of them alike", Made.emptied(Made.with(6, 9, 6)), "[6, 9, 6]");
        Due.same("empty and full baskets", Made.emptied(Made.with(255, 0, 0, 255)), "[255, 0, 0, 255]");
        ItemSets x = Made.with(6, 9, 10);
        Due.is("drop(1)", x.drop(1), 2);
        Due.same("6 and 10", Made.emptied(x), "[6, 10]");
        Due.is("support(0) after 45 were added", Made.upTo(45).support(0), 40);
        Due.is("support(32) after 45 were added", Made.upTo(45).support(32), 9);
    }

    private static void termSupport() {
        Due.says("Terms: The SUPPORT of a set is the number of baskets that have all its goods"
            + " (the empty set: all baskets).");
        ItemSets x = Made.with(6, 14, 8, 0, 6);
        Due.is("support(0)", x.support(0), 5);
        Due.is("support(2)", x.support(2), 3);
        Due.is("support(6)", x.support(6), 3);
        Due.is("support(8)", x.support(8), 2);
        Due.is("support(10)", x.support(10), 1);
        Due.is("support(14)", x.support(14), 1);
        Due.is("support(7)", x.support(7), 0);
        Due.is("support(1)", x.support(1), 0);
    }

    // The next two: {0} is in three of the baskets, {1}, {2}, {0, 1} and {0, 2} in two, {1, 2} and {0, 1, 2} in one.

    private static void termOften() {
        Due.says("Terms: For a number m (at least 1): a set that is not empty is OFTEN if its support is at least m.");
        ItemSets x = Made.with(7, 3, 5, 0);
        Due.is("often(1)", x.often(1), 7);
        Due.is("often(2)", x.often(2), 5);
        Due.is("often(3)", x.often(3), 1);
        Due.is("often(4), where only the empty set is in four", x.often(4), 0);
        Due.is("often(0)", x.often(0), 0);
        Due.is("next(4, 0)", x.next(4, 0), -1);
        Due.is("size(4)", x.size(4), 0);
    }

    private static void termFullAndLargest() {
        Due.says("Terms: It is FULL if no larger set (one with all its goods and more) has the same support,"
            + " and LARGEST if no larger set is often.");
        ItemSets x = Made.with(7, 3, 5, 0);
        Due.is("full(1): 1, 3, 5 and 7", x.full(1), 4);
        Due.is("full(2): 1, 3 and 5", x.full(2), 3);
        Due.is("full(3): 1", x.full(3), 1);
        Due.is("full(4)", x.full(4), 0);
        Due.is("largest(1): 7", x.largest(1), 1);
        Due.is("largest(2): 3 and 5", x.largest(2), 2);
        Due.is("largest(3): 1", x.largest(3), 1);
        Due.is("largest(4)", x.largest(4), 0);
    }

    private static void newObject() {
        Due.says("1: No basket.");
        ItemSets x = new ItemSets();
        Due.is("support(0)", x.support(0), 0);
        Due.is("drop(0)", x.drop(0), -1);
        Due.is("often(1)", x.often(1), 0);
        Due.is("full(1)", x.full(1), 0);
        Due.is("largest(1)", x.largest(1), 0);
        Due.is("size(1)", x.size(1), 0);
        Due.is("next(1, 0)", x.next(1, 0), -1);
        Due.is("closure(0)", x.closure(0), 255);
        Due.is("rules(1, 0)", x.rules(1, 0), 0);
        x.add(255);
        Due.is("another object's support(0)", new ItemSets().support(0), 0);
        Due.is("the first object's support(0) then", x.support(0), 1);
    }

    private static void add() {
        Due.says("2: Adds a basket. Answers how many are held then; -1, and changes nothing, if there are 40.");
        ItemSets x = Made.of(40, 1);
        Due.is("add(2) when 40 are held", x.add(2), -1);
        Due.is("support(2) after it", x.support(2), 0);
        Due.is("support(0) after it", x.support(0), 40);
        Due.is("drop(39)", x.drop(39), 39);
        Due.is("add(2) when 39 are held", x.add(2), 40);
        Due.is("support(2) then", x.support(2), 1);
        Due.is("add(3) when 40 are held again", x.add(3), -1);

        ItemSets high = new ItemSets();
        Due.is("add(256)", high.add(256), 1);
        Due.is("add(-1)", high.add(-1), 2);
        Due.is("add(MIN)", high.add(Integer.MIN_VALUE), 3);
        Due.is("add(0x7fffff03)", high.add(0x7fffff03), 4);
        Due.is("support(3)", high.support(3), 2);
        Due.is("support(255)", high.support(255), 1);
        Due.is("closure(1)", high.closure(1), 3);
        Due.is("closure(4)", high.closure(4), 255);
    }

    private static void drop() {
        Due.says("3: Takes the basket with the number out; the ones behind it move one place back."
            + " Answers how many are held then; -1 if there is none.");
        ItemSets x = Made.with(1, 2, 4, 8);
        Due.is("drop(4)", x.drop(4), -1);
        Due.is("drop(-1)", x.drop(-1), -1);
        Due.is("drop(256)", x.drop(256), -1);
        Due.is("drop(MIN)", x.drop(Integer.MIN_VALUE), -1);
        Due.is("drop(MAX)", x.drop(Integer.MAX_VALUE), -1);
        Due.is("support(0) after wrong numbers", x.support(0), 4);
        Due.is("drop(1)", x.drop(1), 3);
        Due.is("support(2)", x.support(2), 0);
        Due.is("drop(1) again", x.drop(1), 2);
        Due.is("support(4)", x.support(4), 0);
        Due.is("support(8)", x.support(8), 1);
        Due.is("drop(2)", x.drop(2), -1);
        Due.is("add(16)", x.add(16), 3);
        Due.is("drop(0)", x.drop(0), 2);
        Due.is("support(1)", x.support(1), 0);
        Due.is("drop(1), the one added last", x.drop(1), 1);
        Due.is("support(16)", x.support(16), 0);
        Due.is("support(8) at the end", x.support(8), 1);
        Due.is("drop(0), the last", x.drop(0), 0);
        Due.is("drop(0) of none", x.drop(0), -1);

        ItemSets forty = Made.of(40, 1);
        forty.drop(39);
        forty.add(2);
        Due.is("drop(40) of forty", forty.drop(40), -1);
        Due.is("drop(0) of forty", forty.drop(0), 39);
        Due.is("drop(38)", forty.drop(38), 38);
        Due.is("support(2) then", forty.support(2), 0);
    }

    private static void support() {
        Due.says("4: The support of the set.");
        ItemSets x = Made.with(7, 3, 5, 0);
        Due.is("support(0)", x.support(0), 4);
        Due.is("support(1)", x.support(1), 3);
        Due.is("support(2)", x.support(2), 2);
        Due.is("support(6)", x.support(6), 1);
        Due.is("support(8)", x.support(8), 0);
        Due.is("support(128)", x.support(128), 0);
        Due.is("support(256)", x.support(256), 4);
        Due.is("support(257)", x.support(257), 3);
        Due.is("support(-256)", x.support(-256), 4);
        Due.is("support(-254)", x.support(-254), 2);
        Due.is("support(-1)", x.support(-1), 0);
    }

    private static void often() {
        Due.says("5: How many sets are often for m; 0 if m is below 1.");
        ItemSets x = Made.with(3, 3, 6);
        Due.is("often(1)", x.often(1), 5);
        Due.is("often(2)", x.often(2), 3);
        Due.is("often(3)", x.often(3), 1);
        Due.is("often(4)", x.often(4), 0);
        Due.is("often(0)", x.often(0), 0);
        Due.is("often(-1)", x.often(-1), 0);
        Due.is("often(257), m is no set", x.often(257), 0);
        Due.is("often(MIN)", x.often(Integer.MIN_VALUE), 0);
        Due.is("often(MAX)", x.often(Integer.MAX_VALUE), 0);
        Due.is("often(1) of empty baskets", Made.with(0, 0).often(1), 0);
        Due.is("often(40) of forty", Made.of(40, 255).often(40), 255);
        Due.is("often(41) of forty", Made.of(40, 255).often(41), 0);
    }

    private static void full() {
        Due.says("6: How many sets are often and full for m; 0 if m is below 1.");
        ItemSets x = Made.with(3, 3, 6);
        Due.is("full(1)", x.full(1), 3);
        Due.is("full(2)", x.full(2), 2);
        Due.is("full(3)", x.full(3), 1);
        Due.is("full(4)", x.full(4), 0);
        Due.is("full(0)", x.full(0), 0);
        Due.is("full(MIN)", x.full(Integer.MIN_VALUE), 0);
        Due.is("full(257), m is no set", x.full(257), 0);
        Due.is("full(1) of good 0", Made.with(1).full(1), 1);
        Due.is("full(1) of all goods", Made.with(255).full(1), 1);
        Due.is("full(1) with good 7 apart", Made.with(127, 255).full(1), 2);
        Due.is("full(1) of an empty basket", Made.with(0).full(1), 0);
    }

    private static void largest() {
        Due.says("7: How many sets are often and largest for m; 0 if m is below 1.");
        ItemSets x = Made.with(3, 3, 6);
        Due.is("largest(1)", x.largest(1), 2);
        Due.is("largest(2)", x.largest(2), 1);
        Due.is("largest(3)", x.largest(3), 1);
        Due.is("largest(4)", x.largest(4), 0);
        Due.is("largest(0)", x.largest(0), 0);
        Due.is("largest(MIN)", x.largest(Integer.MIN_VALUE), 0);
        Due.is("largest(257), m is no set", x.largest(257), 0);
        Due.is("largest(1) of good 0", Made.with(1).largest(1), 1);
        Due.is("largest(1) of all goods", Made.with(255).largest(1), 1);
        Due.is("largest(1) with good 7 apart", Made.with(127, 128).largest(1), 2);
        Due.is("largest(1) of an empty basket", Made.with(0).largest(1), 0);
    }

    private static void size() {
        Due.says("8: The greatest number of goods of a set that is often for m; 0 if none is or m is below 1.");
        ItemSets x = Made.with(3, 3, 6, 240);
        Due.is("size(1)", x.size(1), 4);
        Due.is("size(2)", x.size(2), 2);
        Due.is("size(3)", x.size(3), 1);
        Due.is("size(4)", x.size(4), 0);
        Due.is("size(0)", x.size(0), 0);
        Due.is("size(-1)", x.size(-1), 0);
        Due.is("size(257), m is no set", x.size(257), 0);
        Due.is("size(1) of good 0", Made.with(1).size(1), 1);
        Due.is("size(1) of all goods", Made.with(255).size(1), 8);
        Due.is("size(1) of good 7", Made.with(128).size(1), 1);
        Due.is("size(1) where the set with the most goods is not the greatest number", Made.with(15, 192).size(1), 4);
    }

    private static void next() {
        Due.says("9: The least set (as a number) at least from that is often for m;"
            + " -1 if there is none or m is below 1.");
        ItemSets x = Made.with(6, 6, 128);
        Due.is("next(1, 0)", x.next(1, 0), 2);
        Due.is("next(1, 2)", x.next(1, 2), 2);
        Due.is("next(1, 3)", x.next(1, 3), 4);
        Due.is("next(1, 7)", x.next(1, 7), 128);
        Due.is("next(1, 128)", x.next(1, 128), 128);
        Due.is("next(1, 129)", x.next(1, 129), -1);
        Due.is("next(2, 5)", x.next(2, 5), 6);
        Due.is("next(2, 7)", x.next(2, 7), -1);
        Due.is("next(1, MIN)", x.next(1, Integer.MIN_VALUE), 2);
        Due.is("next(1, -1)", x.next(1, -1), 2);
        Due.is("next(1, 256)", x.next(1, 256), -1);
        Due.is("next(1, MAX)", x.next(1, Integer.MAX_VALUE), -1);
        Due.is("next(0, 0)", x.next(0, 0), -1);
        Due.is("next(MIN, 0)", x.next(Integer.MIN_VALUE, 0), -1);
        Due.is("next(257, 0), m is no set", x.next(257, 0), -1);
        Due.is("next(1, 255) of all goods", Made.with(255).next(1, 255), 255);
        Due.is("next(1, 0) of empty baskets", Made.with(0, 0).next(1, 0), -1);
    }

    private static void closure() {
        Due.says("10: The largest set (by goods) that has all goods of the set and the same support,"
            + " if there are baskets with all its goods; else 255.");
        ItemSets x = Made.with(7, 3, 14);
        Due.is("closure(0)", x.closure(0), 2);
        Due.is("closure(1)", x.closure(1), 3);
        Due.is("closure(2)", x.closure(2), 2);
        Due.is("closure(4)", x.closure(4), 6);
        Due.is("closure(8)", x.closure(8), 14);
        Due.is("closure(5)", x.closure(5), 7);
        Due.is("closure(9)", x.closure(9), 255);
        Due.is("closure(16)", x.closure(16), 255);
        Due.is("closure(257)", x.closure(257), 3);
        Due.is("closure(-252)", x.closure(-252), 6);
        Due.is("closure(256)", x.closure(256), 2);
        Due.is("closure(-1)", x.closure(-1), 255);
        Due.is("closure(0) with an empty basket", Made.with(7, 0).closure(0), 0);
        Due.is("closure(0) of one basket", Made.with(96).closure(0), 96);
        x.drop(0);
        Due.is("closure(4) after drop(0)", x.closure(4), 14);
        Due.is("closure(5) after drop(0)", x.closure(5), 255);
    }

    private static void rules() {
        Due.says("11: How many pairs of sets (x, y) there are, both not empty and without common goods,"
            + " such that the set of all goods of x and y is often for m"
            + " and 100 times its support is at least percent times the support of x; 0 if m is below 1.");
        // Supports: {0} 3, {1} 3, {0, 1} 2. Both pairs reach 200 of 300.
        ItemSets x = Made.with(3, 3, 1, 2);
        Due.is("rules(1, 66)", x.rules(1, 66), 2);
        Due.is("rules(1, 67)", x.rules(1, 67), 0);
        Due.is("rules(2, 66)", x.rules(2, 66), 2);
        Due.is("rules(3, 0)", x.rules(3, 0), 0);
        Due.is("rules(0, 0)", x.rules(0, 0), 0);
        Due.is("rules(-1, -1)", x.rules(-1, -1), 0);
        Due.is("rules(257, 0), m is no set", x.rules(257, 0), 0);

        // Supports: {0} 1, {1} 2, {0, 1} 1. Only the order tells the pairs apart.
        ItemSets lopsided = Made.with(3, 2);
        Due.is("lopsided rules(1, 50)", lopsided.rules(1, 50), 2);
        Due.is("lopsided rules(1, 51)", lopsided.rules(1, 51), 1);
        Due.is("lopsided rules(1, 100)", lopsided.rules(1, 100), 1);
        Due.is("lopsided rules(1, 101)", lopsided.rules(1, 101), 0);

        Due.is("rules(1, 100) of three goods", Made.with(7).rules(1, 100), 12);
        Due.is("rules(1, 0) of all goods", Made.with(255).rules(1, 0), 6050);
        Due.is("rules(1, 0) of one good", Made.with(128).rules(1, 0), 0);
        Due.is("rules(1, 0) of an empty basket", Made.with(0).rules(1, 0), 0);
    }

    private static void percentLimits() {
        Due.says("12: rules: percent may be any int;"
            + " the two products are compared as whole numbers, without wrapping.");
        ItemSets x = Made.of(40, 3);
        Due.is("rules(40, 100)", x.rules(40, 100), 2);
        Due.is("rules(40, 101)", x.rules(40, 101), 0);
        Due.is("rules(1, -1)", x.rules(1, -1), 2);
        Due.is("rules(1, MIN)", x.rules(1, Integer.MIN_VALUE), 2);
        Due.is("rules(1, MAX)", x.rules(1, Integer.MAX_VALUE), 0);
        ItemSets lopsided = Made.with(3, 1);
        Due.is("lopsided rules(1, 100)", lopsided.rules(1, 100), 1);
        Due.is("lopsided rules(1, -1)", lopsided.rules(1, -1), 2);
        Due.is("lopsided rules(1, MIN)", lopsided.rules(1, Integer.MIN_VALUE), 2);
        // 40 times each of these wraps to 0 or to a number of the other sign in an int.
        Due.is("rules(1, 2^29)", x.rules(1, 1 << 29), 0);
        Due.is("rules(1, -2^29)", x.rules(1, -(1 << 29)), 2);
        Due.is("rules(1, 107374182)", x.rules(1, 107374182), 0);
        Due.is("rules(1, 53687092)", x.rules(1, 53687092), 0);
        Due.is("rules(1, -53687092)", x.rules(1, -53687092), 2);
        Due.is("rules(MAX, MIN)", x.rules(Integer.MAX_VALUE, Integer.MIN_VALUE), 0);
        Due.is("rules(MIN, MIN)", x.rules(Integer.MIN_VALUE, Integer.MIN_VALUE), 0);
    }
}
