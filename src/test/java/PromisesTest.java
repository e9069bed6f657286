/** Each promise by itself, with answers worked out by hand from the document. */
public final class PromisesTest {

    public static void main(String[] args) {
        newObject();
        add();
        drop();
        support();
        often();
        full();
        largest();
        size();
        next();
        closure();
        rules();
        percentLimits();
        Due.end();
    }

    private static void newObject() {
        ItemSets x = new ItemSets();
        Due.is("1: support(0)", x.support(0), 0);
        Due.is("1: drop(0)", x.drop(0), -1);
        Due.is("1: often(1)", x.often(1), 0);
        Due.is("1: full(1)", x.full(1), 0);
        Due.is("1: largest(1)", x.largest(1), 0);
        Due.is("1: size(1)", x.size(1), 0);
        Due.is("1: next(1, 0)", x.next(1, 0), -1);
        Due.is("1: closure(0)", x.closure(0), 255);
        Due.is("1: rules(1, 0)", x.rules(1, 0), 0);
        x.add(255);
        Due.is("1: another object's support(0)", new ItemSets().support(0), 0);
    }

    private static void add() {
        ItemSets x = Made.of(40, 1);
        Due.is("2: add(2) when 40 are held", x.add(2), -1);
        Due.is("2: support(2) after it", x.support(2), 0);
        Due.is("2: support(0) after it", x.support(0), 40);
        Due.is("2: drop(39)", x.drop(39), 39);
        Due.is("2: add(2) when 39 are held", x.add(2), 40);
        Due.is("2: support(2) then", x.support(2), 1);
        Due.is("2: add(3) when 40 are held again", x.add(3), -1);

        ItemSets high = new ItemSets();
        Due.is("2: add(256)", high.add(256), 1);
        Due.is("2: add(-1)", high.add(-1), 2);
        Due.is("2: add(MIN)", high.add(Integer.MIN_VALUE), 3);
        Due.is("2: add(0x7fffff03)", high.add(0x7fffff03), 4);
        Due.is("2: support(3)", high.support(3), 2);
        Due.is("2: support(255)", high.support(255), 1);
        Due.is("2: closure(1)", high.closure(1), 3);
        Due.is("2: closure(4)", high.closure(4), 255);
    }

    private static void drop() {
        ItemSets x = Made.with(1, 2, 4, 8);
        Due.is("3: drop(4)", x.drop(4), -1);
        Due.is("3: drop(-1)", x.drop(-1), -1);
        Due.is("3: drop(256)", x.drop(256), -1);
        Due.is("3: drop(MIN)", x.drop(Integer.MIN_VALUE), -1);
        Due.is("3: drop(MAX)", x.drop(Integer.MAX_VALUE), -1);
        Due.is("3: support(0) after wrong numbers", x.support(0), 4);
        Due.is("3: drop(1)", x.drop(1), 3);
        Due.is("3: support(2)", x.support(2), 0);
        Due.is("3: drop(1) again", x.drop(1), 2);
        Due.is("3: support(4)", x.support(4), 0);
        Due.is("3: support(8)", x.support(8), 1);
        Due.is("3: drop(2)", x.drop(2), -1);
        Due.is("3: add(16)", x.add(16), 3);
        Due.is("3: drop(0)", x.drop(0), 2);
        Due.is("3: support(1)", x.support(1), 0);
        Due.is("3: drop(1), the one added last", x.drop(1), 1);
        Due.is("3: support(16)", x.support(16), 0);
        Due.is("3: support(8) at the end", x.support(8), 1);
        Due.is("3: drop(0), the last", x.drop(0), 0);
        Due.is("3: drop(0) of none", x.drop(0), -1);

        ItemSets forty = Made.of(40, 1);
        forty.drop(39);
        forty.add(2);
        Due.is("3: drop(40) of forty", forty.drop(40), -1);
        Due.is("3: drop(0) of forty", forty.drop(0), 39);
        Due.is("3: drop(38)", forty.drop(38), 38);
        Due.is("3: support(2) then", forty.support(2), 0);
    }

    private static void support() {
        ItemSets x = Made.with(7, 3, 5, 0);
        Due.is("4: support(0)", x.support(0), 4);
        Due.is("4: support(1)", x.support(1), 3);
        Due.is("4: support(2)", x.support(2), 2);
        Due.is("4: support(6)", x.support(6), 1);
        Due.is("4: support(8)", x.support(8), 0);
        Due.is("4: support(128)", x.support(128), 0);
        Due.is("4: support(256)", x.support(256), 4);
        Due.is("4: support(257)", x.support(257), 3);
        Due.is("4: support(-256)", x.support(-256), 4);
        Due.is("4: support(-254)", x.support(-254), 2);
        Due.is("4: support(-1)", x.support(-1), 0);
    }

    private static void often() {
        ItemSets x = Made.with(3, 3, 6);
        Due.is("5: often(1)", x.often(1), 5);
        Due.is("5: often(2)", x.often(2), 3);
        Due.is("5: often(3)", x.often(3), 1);
        Due.is("5: often(4)", x.often(4), 0);
        Due.is("5: often(0)", x.often(0), 0);
        Due.is("5: often(-1)", x.often(-1), 0);
        Due.is("5: often(257), m is no set", x.often(257), 0);
        Due.is("5: often(MIN)", x.often(Integer.MIN_VALUE), 0);
        Due.is("5: often(MAX)", x.often(Integer.MAX_VALUE), 0);
        Due.is("5: often(1) of empty baskets", Made.with(0, 0).often(1), 0);
        Due.is("5: often(40) of forty", Made.of(40, 255).often(40), 255);
        Due.is("5: often(41) of forty", Made.of(40, 255).often(41), 0);
    }

    private static void full() {
        ItemSets x = Made.with(3, 3, 6);
        Due.is("6: full(1)", x.full(1), 3);
        Due.is("6: full(2)", x.full(2), 2);
        Due.is("6: full(3)", x.full(3), 1);
        Due.is("6: full(4)", x.full(4), 0);
        Due.is("6: full(0)", x.full(0), 0);
        Due.is("6: full(MIN)", x.full(Integer.MIN_VALUE), 0);
        Due.is("6: full(257), m is no set", x.full(257), 0);
        Due.is("6: full(1) of good 0", Made.with(1).full(1), 1);
        Due.is("6: full(1) of all goods", Made.with(255).full(1), 1);
        Due.is("6: full(1) with good 7 apart", Made.with(127, 255).full(1), 2);
        Due.is("6: full(1) of an empty basket", Made.with(0).full(1), 0);
    }

    private static void largest() {
        ItemSets x = Made.with(3, 3, 6);
        Due.is("7: largest(1)", x.largest(1), 2);
        Due.is("7: largest(2)", x.largest(2), 1);
        Due.is("7: largest(3)", x.largest(3), 1);
        Due.is("7: largest(4)", x.largest(4), 0);
        Due.is("7: largest(0)", x.largest(0), 0);
        Due.is("7: largest(MIN)", x.largest(Integer.MIN_VALUE), 0);
        Due.is("7: largest(257), m is no set", x.largest(257), 0);
        Due.is("7: largest(1) of good 0", Made.with(1).largest(1), 1);
        Due.is("7: largest(1) of all goods", Made.with(255).largest(1), 1);
        Due.is("7: largest(1) with good 7 apart", Made.with(127, 128).largest(1), 2);
        Due.is("7: largest(1) of an empty basket", Made.with(0).largest(1), 0);
    }

    private static void size() {
        ItemSets x = Made.with(3, 3, 6, 240);
        Due.is("8: size(1)", x.size(1), 4);
        Due.is("8: size(2)", x.size(2), 2);
        Due.is("8: size(3)", x.size(3), 1);
        Due.is("8: size(4)", x.size(4), 0);
        Due.is("8: size(0)", x.size(0), 0);
        Due.is("8: size(-1)", x.size(-1), 0);
        Due.is("8: size(257), m is no set", x.size(257), 0);
        Due.is("8: size(1) of good 0", Made.with(1).size(1), 1);
        Due.is("8: size(1) of all goods", Made.with(255).size(1), 8);
        Due.is("8: size(1) of good 7", Made.with(128).size(1), 1);
        Due.is("8: size(1) where the set with the most goods is not the greatest number", Made.with(15, 192).size(1), 4);
    }

    private static void next() {
        ItemSets x = Made.with(6, 6, 128);
        Due.is("9: next(1, 0)", x.next(1, 0), 2);
        Due.is("9: next(1, 2)", x.next(1, 2), 2);
        Due.is("9: next(1, 3)", x.next(1, 3), 4);
        Due.is("9: next(1, 7)", x.next(1, 7), 128);
        Due.is("9: next(1, 128)", x.next(1, 128), 128);
        Due.is("9: next(1, 129)", x.next(1, 129), -1);
        Due.is("9: next(2, 5)", x.next(2, 5), 6);
        Due.is("9: next(2, 7)", x.next(2, 7), -1);
        Due.is("9: next(1, MIN)", x.next(1, Integer.MIN_VALUE), 2);
        Due.is("9: next(1, -1)", x.next(1, -1), 2);
        Due.is("9: next(1, 256)", x.next(1, 256), -1);
        Due.is("9: next(1, MAX)", x.next(1, Integer.MAX_VALUE), -1);
        Due.is("9: next(0, 0)", x.next(0, 0), -1);
        Due.is("9: next(MIN, 0)", x.next(Integer.MIN_VALUE, 0), -1);
        Due.is("9: next(257, 0), m is no set", x.next(257, 0), -1);
        Due.is("9: next(1, 255) of all goods", Made.with(255).next(1, 255), 255);
        Due.is("9: next(1, 0) of empty baskets", Made.with(0, 0).next(1, 0), -1);
    }

    private static void closure() {
        ItemSets x = Made.with(7, 3, 14);
        Due.is("10: closure(0)", x.closure(0), 2);
        Due.is("10: closure(1)", x.closure(1), 3);
        Due.is("10: closure(2)", x.closure(2), 2);
        Due.is("10: closure(4)", x.closure(4), 6);
        Due.is("10: closure(8)", x.closure(8), 14);
        Due.is("10: closure(5)", x.closure(5), 7);
        Due.is("10: closure(9)", x.closure(9), 255);
        Due.is("10: closure(16)", x.closure(16), 255);
        Due.is("10: closure(257)", x.closure(257), 3);
        Due.is("10: closure(-252)", x.closure(-252), 6);
        Due.is("10: closure(256)", x.closure(256), 2);
        Due.is("10: closure(-1)", x.closure(-1), 255);
        Due.is("10: closure(0) with an empty basket", Made.with(7, 0).closure(0), 0);
        Due.is("10: closure(0) of one basket", Made.with(96).closure(0), 96);
        x.drop(0);
        Due.is("10: closure(4) after drop(0)", x.closure(4), 14);
        Due.is("10: closure(5) after drop(0)", x.closure(5), 255);
    }

    private static void rules() {
        // Supports: {0} 3, {1} 3, {0, 1} 2. Both pairs reach 200 of 300.
        ItemSets x = Made.with(3, 3, 1, 2);
        Due.is("11: rules(1, 66)", x.rules(1, 66), 2);
        Due.is("11: rules(1, 67)", x.rules(1, 67), 0);
        Due.is("11: rules(2, 66)", x.rules(2, 66), 2);
        Due.is("11: rules(3, 0)", x.rules(3, 0), 0);
        Due.is("11: rules(0, 0)", x.rules(0, 0), 0);
        Due.is("11: rules(-1, -1)", x.rules(-1, -1), 0);
        Due.is("11: rules(257, 0), m is no set", x.rules(257, 0), 0);

        // Supports: {0} 1, {1} 2, {0, 1} 1. Only the order tells the pairs apart.
        ItemSets lopsided = Made.with(3, 2);
        Due.is("11: lopsided rules(1, 50)", lopsided.rules(1, 50), 2);
        Due.is("11: lopsided rules(1, 51)", lopsided.rules(1, 51), 1);
        Due.is("11: lopsided rules(1, 100)", lopsided.rules(1, 100), 1);
        Due.is("11: lopsided rules(1, 101)", lopsided.rules(1, 101), 0);

        Due.is("11: rules(1, 100) of three goods", Made.with(7).rules(1, 100), 12);
        Due.is("11: rules(1, 0) of all goods", Made.with(255).rules(1, 0), 6050);
        Due.is("11: rules(1, 0) of one good", Made.with(128).rules(1, 0), 0);
        Due.is("11: rules(1, 0) of an empty basket", Made.with(0).rules(1, 0), 0);
    }

    private static void percentLimits() {
        ItemSets x = Made.of(40, 3);
        Due.is("12: rules(40, 100)", x.rules(40, 100), 2);
        Due.is("12: rules(40, 101)", x.rules(40, 101), 0);
        Due.is("12: rules(1, -1)", x.rules(1, -1), 2);
        Due.is("12: rules(1, MIN)", x.rules(1, Integer.MIN_VALUE), 2);
        Due.is("12: rules(1, MAX)", x.rules(1, Integer.MAX_VALUE), 0);
        // 40 times each of these wraps to 0 or to a number of the other sign in an int.
        Due.is("12: rules(1, 2^29)", x.rules(1, 1 << 29), 0);
        Due.is("12: rules(1, -2^29)", x.rules(1, -(1 << 29)), 2);
        Due.is("12: rules(1, 107374182)", x.rules(1, 107374182), 0);
        Due.is("12: rules(1, 53687092)", x.rules(1, 53687092), 0);
        Due.is("12: rules(1, -53687092)", x.rules(1, -53687092), 2);
        Due.is("12: rules(MAX, MIN)", x.rules(Integer.MAX_VALUE, Integer.MIN_VALUE), 0);
        Due.is("12: rules(MIN, MIN)", x.rules(Integer.MIN_VALUE, Integer.MIN_VALUE), 0);
    }
}
