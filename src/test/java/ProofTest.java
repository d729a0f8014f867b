import java.lang.reflect.Field;
import java.lang.reflect.Method;

/**
 * Promise 13: a remainder counts as proved only if its proof was reckoned out. From outside a proof
 * that is wrong can't be had; so what the object holds is spoiled here, one thing at a time, and
 * the remainder must not count then.
 */
public final class ProofTest {
    private static final int X = Edges.UNIT[0];
    private static final int Y = Edges.UNIT[1];

    private interface Spoiling {
        void spoil(SpaceBasis s) throws ReflectiveOperationException;
    }

    public static void main(String[] args) throws ReflectiveOperationException {
        counts("nothing is spoiled", s -> { }, 1);
        counts("a generator is another", s -> add(row(s, "generators", "polynomials", 0), 0, 1), 0);
        counts("the second generator is another", s -> add(row(s, "generators", "polynomials", 1), 2, 1), 0);
        // Up to degree 4 there are 15 monomials: the places 0 .. 14.
        counts("a generator is of the degree", s -> set(array(s, "generators", "tops"), 0, 14), 1);
        counts("a generator is just above the degree", s -> set(array(s, "generators", "tops"), 0, 15), 0);
        counts("a generator is above the degree", s -> set(array(s, "generators", "tops"), 0, 90), 0);
        counts("a generator that is not there", s -> set(array(s, "space", "origins", "sources"), 0, 2), 0);
        counts("another generator", s -> set(array(s, "space", "origins", "sources"), 0, 1), 0);
        for (int r = 0; r < 4; r++) {
            eachRow(r);
        }
        rowThatIsNotOfTheSpace();
        generatorThatWasCleared();
        rowAfterThoseThatWereReckoned();
        rowOfANewBasis();
        sumThatIsAnother();
        Due.end("ProofTest");
    }

    /** The first rows are the generators, the next ones products of them with variables. */
    private static void eachRow(int r) throws ReflectiveOperationException {
        counts("row " + r + ": factor", s -> add(array(s, "space", "origins", "factors"), r, 1), 0);
        counts("row " + r + ": source", s -> add(array(s, "space", "origins", "sources"), r, 1), 0);
        if (r > 0) {
            counts("row " + r + ": number", s -> add(array(s, "space", "origins", "numbers"), r * (r + 1) / 2, 1), 0);
        }
        if (r > 1) {
            counts("row " + r + ": itself", s -> set(array(s, "space", "origins", "sources"), r, r), 0);
            counts("row " + r + ": a later one", s -> set(array(s, "space", "origins", "sources"), r, r + 1), 0);
            counts("row " + r + ": variable", s -> flip(array(s, "space", "origins", "variables"), r), 0);
        }
    }

    /** x^2 y - 1 and x y^2 - x modulo 5, which give x^2 - y and y^2 - 1 up to 4. */
    private static SpaceBasis twoCubics() {
        SpaceBasis s = Edges.of(5, 2, 0);
        Due.joined(s, 2 * X + Y, 1, 0, -1);
        Due.joined(s, X + 2 * Y, 1, X, -1);
        s.basis(4);
        return s;
    }

    private static void counts(String what, Spoiling spoiling, int want) throws ReflectiveOperationException {
        SpaceBasis s = twoCubics();
        spoiling.spoil(s);
        Due.put(s, 2 * Y, 1, 0, -1);
        Due.holds(what + ": y^2 - 1", s.remainder());
        Due.is(what + ": proved()", s.proved(), want);
    }

    /** x^2 y - 2 stands where x^2 y - 1 was: it gives 0, but nothing proves it. */
    private static void rowThatIsNotOfTheSpace() throws ReflectiveOperationException {
        SpaceBasis s = Edges.of(5, 2, 0);
        Due.joined(s, 2 * X + Y, 1, 0, -1);
        s.basis(3);
        int lead = array(s, "space", "leads")[0];
        set(array(s, "space", "coefficients"), lead * (lead + 1) / 2, 3);
        Due.put(s, 2 * X + Y, 1, 0, -2);
        Due.holds("x^2 y - 2", s.remainder());
        Due.is("x^2 y - 2: proved()", s.proved(), 0);
    }

    /** What was a generator before is none, even if it is the same polynomial. */
    private static void generatorThatWasCleared() throws ReflectiveOperationException {
        SpaceBasis s = new SpaceBasis();
        Due.joined(s, X, 1);
        Due.joined(s, X, 1);
        s.clear();
        Due.joined(s, X, 1);
        s.basis(1);
        set(array(s, "space", "origins", "sources"), 0, 1);
        s.coefficient(X, 1);
        Due.holds("x", s.remainder());
        Due.is("x by a generator that was cleared: proved()", s.proved(), 0);
    }

    /** Only the first row has been reckoned out when the first generator is proved. */
    private static void rowAfterThoseThatWereReckoned() throws ReflectiveOperationException {
        SpaceBasis s = twoCubics();
        Due.put(s, 2 * X + Y, 1, 0, -1);
        Due.holds("the first generator", s.remainder());
        Due.is("the first generator: proved()", s.proved(), 1);
        add(array(s, "space", "origins", "factors"), 1, 1);
        Due.put(s, X + 2 * Y, 1, X, -1);
        Due.holds("the second generator", s.remainder());
        Due.is("the second generator: proved()", s.proved(), 1);
    }

    /** What was reckoned out for one basis is nothing to the next. */
    private static void rowOfANewBasis() throws ReflectiveOperationException {
        SpaceBasis s = twoCubics();
        for (int d = 4; d <= 6; d++) {
            s.basis(d);
            Due.put(s, 2 * Y, 1, 0, -1);
            Due.holds("y^2 - 1 up to " + d, s.remainder());
            Due.is("y^2 - 1 up to " + d + ": proved()", s.proved(), d - 3);
        }
        s.basis(7);
        add(array(s, "space", "origins", "factors"), 0, 1);
        Due.put(s, 2 * Y, 1, 0, -1);
        Due.holds("y^2 - 1 up to 7", s.remainder());
        Due.is("y^2 - 1 up to 7: proved()", s.proved(), 3);
    }

    /** The last sum must be just the polynomial that was asked about. */
    private static void sumThatIsAnother() throws ReflectiveOperationException {
        SpaceBasis s = twoCubics();
        Due.holds("0", s.remainder());
        Object proof = object(s, "proof");
        Method reckonsOut = proof.getClass().getDeclaredMethod("reckonsOut", int[].class);
        reckonsOut.setAccessible(true);
        int[] polynomial = new int[126];
        Due.holds("0 is a sum of nothing", (boolean) reckonsOut.invoke(proof, polynomial));
        for (int place = 0; place < 126; place++) {
            polynomial[place] = 1;
            Due.fails("1 at " + place + " is not", (boolean) reckonsOut.invoke(proof, polynomial));
            polynomial[place] = 0;
        }
    }

    private static Object object(Object from, String... names) throws ReflectiveOperationException {
        Object at = from;
        for (String name : names) {
            Field field = at.getClass().getDeclaredField(name);
            field.setAccessible(true);
            at = field.get(at);
        }
        return at;
    }

    private static int[] array(Object from, String... names) throws ReflectiveOperationException {
        return (int[]) object(from, names);
    }

    private static int[] row(Object from, String owner, String name, int i) throws ReflectiveOperationException {
        return ((int[][]) object(from, owner, name))[i];
    }

    private static void set(int[] numbers, int i, int number) {
        numbers[i] = number;
    }

    private static void add(int[] numbers, int i, int number) {
        numbers[i] = (numbers[i] + number) % 5;
    }

    private static void flip(int[] numbers, int i) {
        numbers[i] = 1 - numbers[i];
    }
}
