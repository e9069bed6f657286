import java.util.Arrays;

/** A test of its own for each part of a sentence of the document that names a boundary case. */
public final class BoundariesTest {

    private static final int MIN = Integer.MIN_VALUE;
    private static final int MAX = Integer.MAX_VALUE;
    private static final int[] BELOW_ONE = {0, -1, -2, -40, -255, -256, MIN + 1, MIN};

    public static void main(String[] args) {
        Due.each(
            BoundariesTest::whatItIs,
            BoundariesTest::terms,
            BoundariesTest::newObject,
            BoundariesTest::add,
            BoundariesTest::drop,
            BoundariesTest::support,
            BoundariesTest::often,
            BoundariesTest::full,
            BoundariesTest::largest,
            BoundariesTest::size,
            BoundariesTest::next,
            BoundariesTest::closure,
            BoundariesTest::rules,
            BoundariesTest::percentLimits);
        Due.end();
    }

    private static void whatItIs() {
        Due.each(
            BoundariesTest::usedFor512Calls,
            BoundariesTest::used512TimesToAskAlone);
    }

    private static void terms() {
        Due.each(
            BoundariesTest::goodsAreZeroToSeven,
            BoundariesTest::setsAreZeroTo255,
            BoundariesTest::lowestBitsOfABasket,
            BoundariesTest::lowestBitsOfASupportedSet,
            BoundariesTest::lowestBitsOfAClosedSet,
            BoundariesTest::atMostFortyAreHeld,
            BoundariesTest::numberedFromZeroInOrder,
            BoundariesTest::basketsWithAllGoods,
            BoundariesTest::emptySetIsInAllBaskets,
            BoundariesTest::emptySetIsNeverOften,
            BoundariesTest::oftenAtExactlyM,
            BoundariesTest::fullAgainstEveryLargerSet,
            BoundariesTest::largestAgainstEveryLargerSet);
    }

    private static void add() {
        Due.each(
            BoundariesTest::addAnswersHowMany,
            BoundariesTest::addToFortyAnswersMinusOne,
            BoundariesTest::addToFortyChangesNothing);
    }

    private static void drop() {
        Due.each(
            BoundariesTest::dropMovesTheOnesBehind,
            BoundariesTest::dropAnswersHowMany,
            BoundariesTest::dropOfNone,
            BoundariesTest::dropOfNoneChangesNothing);
    }

    private static void size() {
        Due.each(
            BoundariesTest::sizeWhereNoneIsOften,
            BoundariesTest::sizeBelowOne,
            BoundariesTest::sizeAtItsGreatest);
    }

    private static void next() {
        Due.each(
            BoundariesTest::nextIsAtLeastFrom,
            BoundariesTest::nextFromBelowAndAboveAllSets,
            BoundariesTest::nextWhereNoneIsOften,
            BoundariesTest::nextBelowOne);
    }

    private static void closure() {
        Due.each(
            BoundariesTest::closureWhereBasketsHaveTheSet,
            BoundariesTest::closureWhereNoBasketHasTheSet);
    }

    private static void rules() {
        Due.each(
            BoundariesTest::rulesOfSetsThatAreNotEmpty,
            BoundariesTest::rulesWithoutCommonGoods,
            BoundariesTest::rulesOfSetsOftenAtExactlyM,
            BoundariesTest::rulesAtExactlyPercent,
            BoundariesTest::rulesBelowOne);
    }

    private static void percentLimits() {
        Due.each(
            BoundariesTest::percentMayBeAnyInt,
            BoundariesTest::productsDoNotWrap);
    }

    // What it is

    private static void usedFor512Calls() {
        Due.says("What it is: an object is used for at most 512 calls");
        ItemSets x = Made.of(40, 3);
        for (int call = 41; call < 512; call++) {
            Due.is("add(4), call " + call, x.add(4), -1);
        }
        Due.is("support(3), call 512", x.support(3), 40);

        ItemSets busy = new ItemSets();
        for (int call = 1; call < 512; call += 2) {
            Due.is("add(5), call " + call, busy.add(5), 1);
            Due.is("drop(0), call " + (call + 1), busy.drop(0), 0);
        }
    }

    private static void used512TimesToAskAlone() {
        Due.says("What it is: an object is used for at most 512 calls, and asking changes nothing");
        ItemSets x = Made.with(3, 6, 3, 0, 0, 0, 0, 0);
        for (int call = 9; call + 7 <= 512; call += 8) {
            String at = ", from call " + call;
            Due.is("support(2)" + at, x.support(2), 3);
            Due.is("often(2)" + at, x.often(2), 3);
            Due.is("full(2)" + at, x.full(2), 2);
            Due.is("largest(2)" + at, x.largest(2), 1);
            Due.is("size(2)" + at, x.size(2), 2);
            Due.is("next(1, 4)" + at, x.next(1, 4), 4);
            Due.is("closure(4)" + at, x.closure(4), 6);
            Due.is("rules(1, 100)" + at, x.rules(1, 100), 2);
        }

        ItemSets kept = Made.with(3, 6, 0, 3, 255);
        for (int m : new int[] {MIN, -1, 0, 1, 2, 5, MAX}) {
            kept.support(m);
            kept.often(m);
            kept.full(m);
            kept.largest(m);
            kept.size(m);
            kept.next(m, m);
            kept.closure(m);
            kept.rules(m, m);
        }
        holds("the baskets after asking", kept, 3, 6, 0, 3, 255);
    }

    // Terms

    private static void goodsAreZeroToSeven() {
        Due.says("Terms: goods are 0 to 7");
        for (int good = 0; good <= 7; good++) {
            int set = 1 << good;
            ItemSets x = Made.with(set);
            Due.is("support of good " + good, x.support(set), 1);
            Due.is("support of all goods but " + good, x.support(255 - set), 0);
            Due.is("often(1) of good " + good, x.often(1), 1);
            Due.is("full(1) of good " + good, x.full(1), 1);
            Due.is("largest(1) of good " + good, x.largest(1), 1);
            Due.is("size(1) of good " + good, x.size(1), 1);
            Due.is("next(1, 0) of good " + good, x.next(1, 0), set);
            Due.is("closure(0) of good " + good, x.closure(0), set);
            Due.is("rules(1, 0) of good " + good, x.rules(1, 0), 0);
        }
        Due.is("rules(1, 0) of goods 0 and 7", Made.with(129).rules(1, 0), 2);
    }

    private static void setsAreZeroTo255() {
        Due.says("Terms: a set is written 0 to 255");
        ItemSets x = Made.with(0, 255);
        Due.is("support(0)", x.support(0), 2);
        Due.is("support(255)", x.support(255), 1);
        Due.is("often(1)", x.often(1), 255);
        Due.is("size(1)", x.size(1), 8);
        Due.is("next(1, 255)", x.next(1, 255), 255);
        Due.is("closure(0)", x.closure(0), 0);
        Due.is("closure(255)", x.closure(255), 255);
        holds("the baskets", x, 0, 255);
    }

    private static void lowestBitsOfABasket() {
        Due.says("Terms: of an argument only the eight lowest bits are looked at (add)");
        for (int bit = 8; bit <= 31; bit++) {
            holds("add(2^" + bit + ") and add(5 + 2^" + bit + ")", Made.with(1 << bit, 5 | 1 << bit), 0, 5);
        }
        holds("add(-1), add(-256), add(MIN), add(MAX)", Made.with(-1, -256, MIN, MAX), 255, 0, 0, 255);
    }

    private static void lowestBitsOfASupportedSet() {
        Due.says("Terms: of an argument only the eight lowest bits are looked at (support)");
        ItemSets x = Made.with(5, 4, 0);
        for (int bit = 8; bit <= 31; bit++) {
            Due.is("support(2^" + bit + ")", x.support(1 << bit), 3);
            Due.is("support(4 + 2^" + bit + ")", x.support(4 | 1 << bit), 2);
        }
        Due.is("support(-256)", x.support(-256), 3);
        Due.is("support(-251)", x.support(-251), 1);
        Due.is("support(-1)", x.support(-1), 0);
        Due.is("support(MIN)", x.support(MIN), 3);
        Due.is("support(MAX)", x.support(MAX), 0);
    }

    private static void lowestBitsOfAClosedSet() {
        Due.says("Terms: of an argument only the eight lowest bits are looked at (closure)");
        ItemSets x = Made.with(7, 6, 2);
        for (int bit = 8; bit <= 31; bit++) {
            Due.is("closure(2^" + bit + ")", x.closure(1 << bit), 2);
            Due.is("closure(4 + 2^" + bit + ")", x.closure(4 | 1 << bit), 6);
        }
        Due.is("closure(-256)", x.closure(-256), 2);
        Due.is("closure(-255)", x.closure(-255), 7);
        Due.is("closure(-1)", x.closure(-1), 255);
        Due.is("closure(MIN)", x.closure(MIN), 2);
    }

    private static void atMostFortyAreHeld() {
        Due.says("Terms: at most 40 are held");
        ItemSets x = Made.upTo(39);
        Due.is("support(0) of 39", x.support(0), 39);
        Due.is("add(40), the 40th", x.add(40), 40);
        Due.is("support(0) of 40", x.support(0), 40);
        Due.is("support(40)", x.support(40), 1);
        Due.is("add(41), a 41st", x.add(41), -1);
        Due.is("support(0) after it", x.support(0), 40);
        Due.is("often(40) of 40 alike", Made.of(41, 255).often(40), 255);
        Due.is("often(41) of 40 alike", Made.of(41, 255).often(41), 0);
    }

    private static void numberedFromZeroInOrder() {
        Due.says("Terms: numbered from 0 in the order in which they were added");
        ItemSets x = Made.with(8, 2, 4, 2);
        Due.is("drop(0), the first added", x.drop(0), 3);
        Due.is("support(8)", x.support(8), 0);
        Due.is("drop(2), the last added", x.drop(2), 2);
        Due.is("support(2)", x.support(2), 1);
        holds("the ones between", x, 2, 4);
        holds("forty", Made.upTo(40), oneTo(40));
    }

    private static void basketsWithAllGoods() {
        Due.says("Terms: the support is the number of baskets that have all its goods");
        for (int good = 0; good <= 7; good++) {
            int lacking = 255 - (1 << good);
            ItemSets x = Made.with(lacking, 255);
            Due.is("support(255) with good " + good + " lacking once", x.support(255), 1);
            Due.is("support of all but good " + good, x.support(lacking), 2);
        }
    }

    private static void emptySetIsInAllBaskets() {
        Due.says("Terms: the empty set: all baskets");
        Due.is("support(0) of no basket", new ItemSets().support(0), 0);
        Due.is("support(0) of an empty basket", Made.with(0).support(0), 1);
        Due.is("support(0) of three baskets", Made.with(0, 1, 254).support(0), 3);
        Due.is("support(0) of 40 empty baskets", Made.of(40, 0).support(0), 40);
        Due.is("support(256) of three baskets", Made.with(0, 1, 254).support(256), 3);
    }

    private static void emptySetIsNeverOften() {
        Due.says("Terms: a set that is not empty is often");
        ItemSets x = Made.of(40, 0);
        Due.is("often(1)", x.often(1), 0);
        Due.is("full(1)", x.full(1), 0);
        Due.is("largest(1)", x.largest(1), 0);
        Due.is("size(1)", x.size(1), 0);
        Due.is("next(1, 0)", x.next(1, 0), -1);
        Due.is("next(1, MIN)", x.next(1, MIN), -1);
        Due.is("rules(1, 0)", x.rules(1, 0), 0);
        ItemSets some = Made.with(0, 0, 16);
        Due.is("often(1) of one set", some.often(1), 1);
        Due.is("full(1) of one set", some.full(1), 1);
        Due.is("next(1, 0) of one set", some.next(1, 0), 16);
        Due.is("next(2, 0) of one set", some.next(2, 0), -1);
    }

    private static void oftenAtExactlyM() {
        Due.says("Terms: often if its support is at least m");
        for (int count = 1; count <= 40; count++) {
            ItemSets x = Made.of(count, 6);
            String at = " of " + count + " alike";
            Due.is("often(" + count + ")" + at, x.often(count), 3);
            Due.is("full(" + count + ")" + at, x.full(count), 1);
            Due.is("largest(" + count + ")" + at, x.largest(count), 1);
            Due.is("size(" + count + ")" + at, x.size(count), 2);
            Due.is("next(" + count + ", 0)" + at, x.next(count, 0), 2);
            Due.is("rules(" + count + ", 100)" + at, x.rules(count, 100), 2);
            noneIsOften(x, count + 1, at);
            noneIsOften(x, MAX, at);
        }
        // m is a number and no set: its high bits count.
        ItemSets three = Made.of(3, 6);
        for (int bit = 8; bit <= 30; bit++) {
            noneIsOften(three, 2 | 1 << bit, " of 3 alike");
        }
    }

    private static void noneIsOften(ItemSets x, int m, String at) {
        Due.is("often(" + m + ")" + at, x.often(m), 0);
        Due.is("full(" + m + ")" + at, x.full(m), 0);
        Due.is("largest(" + m + ")" + at, x.largest(m), 0);
        Due.is("size(" + m + ")" + at, x.size(m), 0);
        Due.is("next(" + m + ", 0)" + at, x.next(m, 0), -1);
        Due.is("rules(" + m + ", 100)" + at, x.rules(m, 100), 0);
    }

    private static void fullAgainstEveryLargerSet() {
        Due.says("Terms: full if no larger set (one with all its goods and more) has the same support");
        Due.is("full(1) of 255, which has no larger set", Made.with(255).full(1), 1);
        for (int good = 0; good <= 7; good++) {
            int rest = 255 - (1 << good);
            Due.is("full(1), larger by good " + good + " with less support", Made.with(rest, 255).full(1), 2);
            Due.is("full(2), larger by good " + good + " not often", Made.with(rest, 255).full(2), 1);
            int pair = 1 << good | 1 << (good + 1) % 8;
            Due.is("full(1), larger by good " + good + " with the same support", Made.with(pair).full(1), 1);
        }
        // 7 and 8 have the same support, but neither has all goods of the other.
        Due.is("full(1) of sets apart", Made.with(7, 8).full(1), 2);
    }

    private static void largestAgainstEveryLargerSet() {
        Due.says("Terms: largest if no larger set is often");
        Due.is("largest(1) of 255, which has no larger set", Made.with(255).largest(1), 1);
        for (int good = 0; good <= 7; good++) {
            int rest = 255 - (1 << good);
            Due.is("largest(1), larger by good " + good + " often", Made.with(rest, 255).largest(1), 1);
            Due.is("largest(2), larger by good " + good + " short by one", Made.with(rest, 255).largest(2), 1);
            Due.is("largest(1), good " + good + " apart", Made.with(rest, 255 - rest).largest(1), 2);
        }
        ItemSets x = Made.with(1, 1, 1, 3, 3, 7);
        Due.is("largest(1)", x.largest(1), 1);
        Due.is("largest(2)", x.largest(2), 1);
        Due.is("largest(4)", x.largest(4), 1);
    }

    // Promises 1 to 4

    private static void newObject() {
        Due.says("1: no basket");
        ItemSets other = Made.of(40, 255);
        ItemSets x = new ItemSets();
        Due.is("support(0)", x.support(0), 0);
        Due.is("support(255)", x.support(255), 0);
        Due.is("drop(0)", x.drop(0), -1);
        noneIsOften(x, 1, "");
        Due.is("closure(0)", x.closure(0), 255);
        Due.is("add(1)", x.add(1), 1);
        Due.is("support(0) of the other object", other.support(0), 40);
    }

    private static void addAnswersHowMany() {
        Due.says("2: answers how many are held then");
        ItemSets x = new ItemSets();
        for (int count = 1; count <= 40; count++) {
            Due.is("add(" + count % 3 + ")", x.add(count % 3), count);
        }
        Due.is("drop(7)", x.drop(7), 39);
        Due.is("add(0) after it", x.add(0), 40);
    }

    private static void addToFortyAnswersMinusOne() {
        Due.says("2: -1 if there are 40");
        ItemSets x = Made.of(40, 1);
        for (int basket : new int[] {0, 1, 2, 255, 256, -1, MIN, MAX}) {
            Due.is("add(" + basket + ")", x.add(basket), -1);
        }
        Due.is("drop(39)", x.drop(39), 39);
        Due.is("add(2) to 39", x.add(2), 40);
        Due.is("add(2) to 40 again", x.add(2), -1);
    }

    private static void addToFortyChangesNothing() {
        Due.says("2: changes nothing if there are 40");
        ItemSets x = Made.upTo(40);
        x.add(255);
        x.add(0);
        x.add(MIN);
        Due.is("support(0)", x.support(0), 40);
        Due.is("support(255)", x.support(255), 0);
        holds("the baskets", x, oneTo(40));
    }

    private static void dropMovesTheOnesBehind() {
        Due.says("3: takes the basket with the number out; the ones behind it move one place back");
        for (int count : new int[] {1, 2, 5, 39, 40}) {
            for (int number = 0; number < count; number++) {
                ItemSets x = Made.upTo(count);
                x.drop(number);
                holds("after drop(" + number + ") of " + count, x, without(number, oneTo(count)));
            }
        }
        ItemSets x = Made.with(1, 2, 4);
        x.drop(0);
        x.add(8);
        holds("after drop(0) and add(8)", x, 2, 4, 8);
    }

    private static void dropAnswersHowMany() {
        Due.says("3: answers how many are held then");
        ItemSets front = Made.upTo(40);
        ItemSets back = Made.upTo(40);
        for (int left = 39; left >= 0; left--) {
            Due.is("drop(0)", front.drop(0), left);
            Due.is("drop(" + left + ")", back.drop(left), left);
        }
        Due.is("support(0) at the end", front.support(0), 0);
        Due.is("add(9) to the emptied object", front.add(9), 1);
    }

    private static void dropOfNone() {
        Due.says("3: -1 if there is none");
        for (int count = 0; count <= 40; count++) {
            ItemSets x = Made.upTo(count);
            for (int number : new int[] {count, count + 1, 40, 41, 255, 256, MAX, -1, -2, -40, -256, MIN}) {
                Due.is("drop(" + number + ") of " + count, x.drop(number), -1);
            }
        }
        ItemSets x = Made.with(1, 2);
        x.drop(1);
        Due.is("drop(1) a second time", x.drop(1), -1);
        x.drop(0);
        Due.is("drop(0) of an emptied object", x.drop(0), -1);
    }

    private static void dropOfNoneChangesNothing() {
        Due.says("3: -1 if there is none, and no basket is taken out then");
        for (int count : new int[] {0, 1, 3, 39, 40}) {
            ItemSets x = Made.upTo(count);
            for (int number : new int[] {count, count + 1, 256, MAX, -1, MIN}) {
                x.drop(number);
            }
            Due.is("support(0) of " + count, x.support(0), count);
            holds("the baskets", x, oneTo(count));
        }
    }

    private static void support() {
        Due.says("4: the support of the set");
        ItemSets x = Made.of(40, 255);
        for (int set = 0; set <= 255; set++) {
            Due.is("support(" + set + ") of 40 with all goods", x.support(set), 40);
        }
        ItemSets none = Made.of(40, 0);
        for (int set = 1; set <= 255; set++) {
            Due.is("support(" + set + ") of 40 empty baskets", none.support(set), 0);
        }
    }

    // Promises 5 to 9: m at its edges. In each state below, reading m as 1 or leaving it out would be seen.

    private static void often() {
        Due.says("5: 0 if m is below 1");
        for (int m : BELOW_ONE) {
            Due.is("often(" + m + ")", Made.with(3, 6).often(m), 0);
            Due.is("often(" + m + ") of all goods", Made.of(40, 255).often(m), 0);
            Due.is("often(" + m + ") of no basket", new ItemSets().often(m), 0);
        }
        Due.is("often(1)", Made.with(3, 6).often(1), 5);
    }

    private static void full() {
        Due.says("6: 0 if m is below 1");
        for (int m : BELOW_ONE) {
            Due.is("full(" + m + ")", Made.with(3, 6).full(m), 0);
            Due.is("full(" + m + ") of all goods", Made.of(40, 255).full(m), 0);
            Due.is("full(" + m + ") of no basket", new ItemSets().full(m), 0);
        }
        Due.is("full(1)", Made.with(3, 6).full(1), 3);
    }

    private static void largest() {
        Due.says("7: 0 if m is below 1");
        for (int m : BELOW_ONE) {
            Due.is("largest(" + m + ")", Made.with(3, 6).largest(m), 0);
            Due.is("largest(" + m + ") of all goods", Made.of(40, 255).largest(m), 0);
            Due.is("largest(" + m + ") of no basket", new ItemSets().largest(m), 0);
        }
        Due.is("largest(1)", Made.with(3, 6).largest(1), 2);
    }

    private static void sizeWhereNoneIsOften() {
        Due.says("8: 0 if none is");
        Due.is("size(1) of no basket", new ItemSets().size(1), 0);
        Due.is("size(1) of empty baskets", Made.with(0, 0).size(1), 0);
        Due.is("size(3) of two baskets", Made.with(255, 255).size(3), 0);
        Due.is("size(2) of two baskets apart", Made.with(15, 240).size(2), 0);
        Due.is("size(MAX)", Made.of(40, 255).size(MAX), 0);
    }

    private static void sizeBelowOne() {
        Due.says("8: 0 if m is below 1");
        for (int m : BELOW_ONE) {
            Due.is("size(" + m + ")", Made.with(3, 6).size(m), 0);
            Due.is("size(" + m + ") of all goods", Made.of(40, 255).size(m), 0);
            Due.is("size(" + m + ") of no basket", new ItemSets().size(m), 0);
        }
        Due.is("size(1)", Made.with(3, 6).size(1), 2);
    }

    private static void sizeAtItsGreatest() {
        Due.says("8: the greatest number of goods");
        for (int goods = 0; goods <= 8; goods++) {
            int low = (1 << goods) - 1;
            Due.is("size(1) of the " + goods + " lowest goods", Made.with(low).size(1), goods);
            Due.is("size(1) of the " + goods + " highest goods", Made.with(low << (8 - goods)).size(1), goods);
            Due.is("size(1) with good 7 beside them", Made.with(128, low).size(1), goods == 0 ? 1 : goods);
        }
    }

    private static void nextIsAtLeastFrom() {
        Due.says("9: the least set at least from");
        ItemSets x = Made.with(9);
        Due.is("next(1, 0)", x.next(1, 0), 1);
        Due.is("next(1, 1)", x.next(1, 1), 1);
        Due.is("next(1, 2)", x.next(1, 2), 8);
        Due.is("next(1, 8)", x.next(1, 8), 8);
        Due.is("next(1, 9)", x.next(1, 9), 9);
        Due.is("next(1, 10)", x.next(1, 10), -1);
        ItemSets all = Made.with(255);
        for (int from = 1; from <= 255; from++) {
            Due.is("next(1, " + from + ") of all goods", all.next(1, from), from);
        }
    }

    private static void nextFromBelowAndAboveAllSets() {
        Due.says("9: at least from, where from is below or above all sets");
        ItemSets x = Made.with(255);
        for (int from : new int[] {0, -1, -2, -255, -256, -257, MIN + 1, MIN}) {
            Due.is("next(1, " + from + ")", x.next(1, from), 1);
        }
        for (int from : new int[] {256, 257, 511, 512, 65536, MAX - 1, MAX}) {
            Due.is("next(1, " + from + ")", x.next(1, from), -1);
        }
    }

    private static void nextWhereNoneIsOften() {
        Due.says("9: -1 if there is none");
        Due.is("next(1, 0) of no basket", new ItemSets().next(1, 0), -1);
        Due.is("next(1, 0) of empty baskets", Made.with(0, 0).next(1, 0), -1);
        Due.is("next(3, 0) of two baskets", Made.with(255, 255).next(3, 0), -1);
        Due.is("next(MAX, 0)", Made.of(40, 255).next(MAX, 0), -1);
        Due.is("next(1, 128) behind the last", Made.with(127).next(1, 128), -1);
        Due.is("next(2, 2) behind the last", Made.with(3, 1).next(2, 2), -1);
    }

    private static void nextBelowOne() {
        Due.says("9: -1 if m is below 1");
        for (int m : BELOW_ONE) {
            for (int from : new int[] {MIN, -1, 0, 1, 2, 255, 256, MAX}) {
                Due.is("next(" + m + ", " + from + ")", Made.with(255, 3).next(m, from), -1);
            }
            Due.is("next(" + m + ", 1) of no basket", new ItemSets().next(m, 1), -1);
        }
    }

    // Promise 10

    private static void closureWhereBasketsHaveTheSet() {
        Due.says("10: the largest set with the same support, if there are baskets with all its goods");
        Due.is("closure(0) of one basket", Made.with(96).closure(0), 96);
        Due.is("closure(0) of an empty basket", Made.with(0).closure(0), 0);
        Due.is("closure(0) of baskets apart", Made.with(15, 240).closure(0), 0);
        Due.is("closure(0) of 40 alike", Made.of(40, 17).closure(0), 17);
        Due.is("closure(1) of a basket with all goods", Made.with(255).closure(1), 255);
        Due.is("closure(128) that only the last has", lastOfForty(128 + 4).closure(128), 132);
        Due.is("closure(2) that is closed", Made.with(2, 3).closure(2), 2);
        Due.is("closure(7) that is a basket", Made.with(7).closure(7), 7);
    }

    private static ItemSets lastOfForty(int basket) {
        ItemSets x = Made.of(39, 3);
        x.add(basket);
        return x;
    }

    private static void closureWhereNoBasketHasTheSet() {
        Due.says("10: else 255");
        Due.is("closure(0) of no basket", new ItemSets().closure(0), 255);
        Due.is("closure(1) of no basket", new ItemSets().closure(1), 255);
        Due.is("closure(255) of no basket", new ItemSets().closure(255), 255);
        Due.is("closure(1) of an empty basket", Made.with(0).closure(1), 255);
        Due.is("closure(3) of baskets with one good each", Made.with(1, 2).closure(3), 255);
        Due.is("closure(255) with one good lacking", Made.of(40, 254).closure(255), 255);
        ItemSets emptied = Made.with(6);
        emptied.drop(0);
        Due.is("closure(2) of an emptied object", emptied.closure(2), 255);
        Due.is("closure(0) of an emptied object", emptied.closure(0), 255);
    }

    // Promises 11 and 12

    private static void rulesOfSetsThatAreNotEmpty() {
        Due.says("11: both not empty");
        Due.is("rules(1, 0) of no basket", new ItemSets().rules(1, 0), 0);
        Due.is("rules(1, MIN) of an empty basket", Made.with(0).rules(1, MIN), 0);
        for (int good = 0; good <= 7; good++) {
            Due.is("rules(1, MIN) of good " + good, Made.with(1 << good).rules(1, MIN), 0);
        }
        Due.is("rules(1, MIN) of two goods", Made.with(3).rules(1, MIN), 2);
    }

    private static void rulesWithoutCommonGoods() {
        Due.says("11: without common goods");
        // Of n goods each is in x, in y or in neither, less the pairs with an empty side: 3^n - 2 * 2^n + 1.
        int[] pairs = {0, 0, 2, 12, 50, 180, 602, 1932, 6050};
        for (int goods = 0; goods <= 8; goods++) {
            int low = (1 << goods) - 1;
            Due.is("rules(1, 100) of the " + goods + " lowest goods", Made.with(low).rules(1, 100), pairs[goods]);
            int high = low << (8 - goods);
            Due.is("rules(1, 100) of the " + goods + " highest goods", Made.with(high).rules(1, 100), pairs[goods]);
        }
    }

    private static void rulesOfSetsOftenAtExactlyM() {
        Due.says("11: the set of all goods of x and y is often for m");
        ItemSets x = Made.with(3, 3, 1, 2, 1, 2);
        Due.is("rules(2, 50)", x.rules(2, 50), 2);
        Due.is("rules(3, 50), where x and y are often but not both", x.rules(3, 50), 0);
        Due.is("rules(MAX, MIN)", x.rules(MAX, MIN), 0);
        Due.is("rules(40, 0) of 40", Made.of(40, 3).rules(40, 0), 2);
        Due.is("rules(41, 0) of 40", Made.of(40, 3).rules(41, 0), 0);
    }

    private static void rulesAtExactlyPercent() {
        Due.says("11: 100 times its support is at least percent times the support of x");
        ItemSets half = Made.with(3, 1, 2);
        Due.is("rules(1, 50), just reached", half.rules(1, 50), 2);
        Due.is("rules(1, 51)", half.rules(1, 51), 0);
        ItemSets third = Made.with(3, 1, 1, 2, 2);
        Due.is("rules(1, 33), a third is more", third.rules(1, 33), 2);
        Due.is("rules(1, 34), a third is less", third.rules(1, 34), 0);
        ItemSets leaning = Made.with(3, 1);
        Due.is("rules(1, 100), from x = 2 alone", leaning.rules(1, 100), 1);
        Due.is("rules(1, 101)", leaning.rules(1, 101), 0);
        Due.is("rules(1, 0)", leaning.rules(1, 0), 2);
    }

    private static void rulesBelowOne() {
        Due.says("11: 0 if m is below 1");
        for (int m : BELOW_ONE) {
            for (int percent : new int[] {MIN, -1, 0, 1, 100, 101, MAX}) {
                Due.is("rules(" + m + ", " + percent + ")", Made.with(3, 6).rules(m, percent), 0);
                Due.is("rules(" + m + ", " + percent + ") of no basket", new ItemSets().rules(m, percent), 0);
            }
        }
    }

    private static void percentMayBeAnyInt() {
        Due.says("12: percent may be any int");
        ItemSets x = Made.with(7, 7, 1);
        for (int percent : new int[] {MIN, MIN + 1, -1000000, -256, -101, -100, -1, 0, 1}) {
            Due.is("rules(1, " + percent + ")", x.rules(1, percent), 12);
        }
        for (int percent : new int[] {101, 256, 257, 65536, 1000000, MAX - 1, MAX}) {
            Due.is("rules(1, " + percent + ")", x.rules(1, percent), 0);
        }
    }

    private static void productsDoNotWrap() {
        Due.says("12: the two products are compared as whole numbers, without wrapping");
        for (int count = 1; count <= 40; count++) {
            ItemSets x = Made.of(count, 3);
            for (int halfTurns = 1; halfTurns < count; halfTurns++) {
                // The least percent whose product with the support is past this many times 2^31: in an int it wraps.
                int percent = (int) ((((long) halfTurns) << 31) / count + 1);
                Due.is("rules(1, " + percent + ") of " + count, x.rules(1, percent), 0);
                Due.is("rules(1, " + -percent + ") of " + count, x.rules(1, -percent), 2);
            }
            Due.is("rules(1, MAX) of " + count, x.rules(1, MAX), 0);
            Due.is("rules(1, MIN) of " + count, x.rules(1, MIN), 2);
        }
    }

    // Helpers

    /** The object holds these baskets in this order; it is emptied on the way. */
    private static void holds(String what, ItemSets x, int... baskets) {
        Due.same(what, Made.emptied(x), Arrays.toString(baskets));
    }

    private static int[] oneTo(int count) {
        int[] baskets = new int[count];
        for (int i = 0; i < count; i++) {
            baskets[i] = i + 1;
        }
        return baskets;
    }

    private static int[] without(int number, int[] baskets) {
        int[] left = Arrays.copyOf(baskets, baskets.length - 1);
        System.arraycopy(baskets, number + 1, left, number, left.length - number);
        return left;
    }
}
