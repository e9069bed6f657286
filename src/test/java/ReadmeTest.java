/** The answers that README.md tells. */
public final class ReadmeTest {

    public static void main(String[] args) {
        ItemSets sets = new ItemSets();
        Due.is("add(7)", sets.add(7), 1);
        Due.is("add(3)", sets.add(3), 2);
        Due.is("add(5)", sets.add(5), 3);
        Due.is("support(3)", sets.support(3), 2);
        Due.is("often(2)", sets.often(2), 5);
        Due.is("full(2)", sets.full(2), 3);
        Due.is("largest(2)", sets.largest(2), 2);
        Due.is("size(2)", sets.size(2), 2);
        Due.is("next(2, 4)", sets.next(2, 4), 4);
        Due.is("closure(2)", sets.closure(2), 3);
        Due.is("rules(2, 60)", sets.rules(2, 60), 4);
        Due.is("drop(0)", sets.drop(0), 2);
        Due.end();
    }
}
