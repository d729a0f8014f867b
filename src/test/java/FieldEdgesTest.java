import java.util.function.Consumer;

/** The boundary cases of promises 1 "A new object" and 2 "field", a test for each sentence. */
public final class FieldEdgesTest {
    public static void main(String[] args) {
        newObjectModuloSeven();
        newObjectOfTwoVariables();
        newObjectWithoutGenerators();
        newObjectHandIsZero();
        newObjectHasNoBasis();
        newObjectIsFree();
        justThePrimesUpTo32003();
        primesFarOut();
        variablesOneToFour();
        ordersZeroAndOne();
        allWrongAtOnce();
        refusedFieldChangesNothing();
        fieldTakesGeneratorsAway();
        fieldEmptiesTheHand();
        fieldTakesTheBasisAway();
        fieldOfTheSameNumbers();
        fieldOfOtherVariables();
        fieldOfASmallerPrime();
        fieldLeavesProved();
        Due.end("FieldEdgesTest");
    }

    /** "P is 7". */
    private static void newObjectModuloSeven() {
        int[][] numbers = {
            {-8, 6}, {-7, 0}, {-1, 6}, {0, 0}, {6, 6}, {7, 0}, {8, 1}, {Edges.LEAST, 5}, {Edges.GREATEST, 1}
        };
        SpaceBasis s = new SpaceBasis();
        for (int[] pair : numbers) {
            s.coefficient(0, pair[0]);
            Due.is("new: " + pair[0] + " modulo 7", s.hand(0), pair[1]);
        }
    }

    /** "N is 2": HIGHEST is 12 then. */
    private static void newObjectOfTwoVariables() {
        SpaceBasis s = new SpaceBasis();
        for (int e : new int[] {Due.m(12, 0), Due.m(0, 12), Due.m(5, 7)}) {
            s.coefficient(e, 2);
            Due.is("new: inside", s.hand(e), 2);
        }
        int[] outside = {
            Due.m(13, 0), Due.m(0, 13), Due.m(6, 7), Due.m(0, 0, 1, 0), Due.m(0, 0, 0, 1), Due.m(1, 0, 1, 0)
        };
        for (int e : outside) {
            Due.refusesArgument("new: outside " + e, () -> s.coefficient(e, 2));
        }
        Due.is("new: basis(12)", s.basis(12), 0);
        Due.refusesArgument("new: basis(13)", () -> s.basis(13));
    }

    /** "No generators": the basis is empty, and the first one is the first. */
    private static void newObjectWithoutGenerators() {
        for (int d = 0; d <= 12; d++) {
            SpaceBasis s = new SpaceBasis();
            Due.is("new: basis(" + d + ")", s.basis(d), 0);
            Due.is("new: complete up to " + d, s.ideal(0), 1);
            Due.is("new: dimension", s.ideal(3), 2);
            Due.is("new: standard(" + d + ")", s.standard(d), d + 1);
            Due.is("new: first generator", Due.joined(s, 0, 1), 1);
        }
    }

    /** "the polynomial in hand is 0". */
    private static void newObjectHandIsZero() {
        SpaceBasis s = new SpaceBasis();
        Edges.emptyHand("new", s, 2);
        Due.refusesArgument("new: join()", s::join);
        s.basis(0);
        Due.holds("new: remainder of 0", s.remainder());
    }

    private static void newObjectHasNoBasis() {
        SpaceBasis s = new SpaceBasis();
        Edges.withoutBasis("new", s);
        Due.is("new: proved()", s.proved(), 0);
    }

    /** What one object does is nothing to another. */
    private static void newObjectIsFree() {
        SpaceBasis busy = new SpaceBasis();
        SpaceBasis early = new SpaceBasis();
        busy.field(32003, 4, 1);
        Edges.eightGenerators(busy, 4);
        busy.basis(5);
        busy.remainder();
        busy.coefficient(5, 5);
        SpaceBasis late = new SpaceBasis();
        for (SpaceBasis s : new SpaceBasis[] {early, late}) {
            Edges.withoutBasis("beside a busy one", s);
            Edges.emptyHand("beside a busy one", s, 2);
            Due.is("beside a busy one: proved()", s.proved(), 0);
            Due.refusesArgument("beside a busy one: n", () -> s.coefficient(1, 1));
            s.coefficient(0, 8);
            Due.is("beside a busy one: p", s.hand(0), 1);
            Due.is("beside a busy one: join()", s.join(), 1);
        }
        Due.is("the busy one", busy.hand(5), 5);
        Due.is("the busy one", busy.ideal(2), 5);
    }

    private static boolean isPrime(int p) {
        if (p < 2) {
            return false;
        }
        for (int d = 2; d < p; d++) {
            if (p % d == 0) {
                return false;
            }
        }
        return true;
    }

    private static boolean takes(SpaceBasis s, int p) {
        try {
            s.field(p, 1, 0);
            return true;
        } catch (IllegalArgumentException e) {
            return false;
        }
    }

    /** "IllegalArgumentException: P is no prime up to 32003": each number round the bounds. */
    private static void justThePrimesUpTo32003() {
        SpaceBasis s = new SpaceBasis();
        int calls = 0;
        int primes = 0;
        for (int p = -300; p <= 33000; p++) {
            if (calls++ % 500 == 0) {
                s = new SpaceBasis();
            }
            boolean due = p <= 32003 && isPrime(p);
            Due.is("field of " + p, takes(s, p) ? 1 : 0, due ? 1 : 0);
            primes += due ? 1 : 0;
        }
        Due.is("primes up to 32003", primes, 3433);
    }

    /** Primes above, negative ones, and numbers whose squares and sums wrap around. */
    private static void primesFarOut() {
        int[] wrong = {
            Edges.LEAST, Edges.LEAST + 1, Edges.LEAST + 2, Edges.LEAST + 7, -32003, -65537, 32009, 46337, 46341,
            65536, 65537, 65539, 65543, 97543, 65536 + 32003, 131072 + 7, 1 << 24, (1 << 30) + 3,
            46337 * 46337, 2147483629, Edges.GREATEST - 1, Edges.GREATEST
        };
        SpaceBasis s = new SpaceBasis();
        for (int p : wrong) {
            Due.refusesArgument("field of " + p, () -> s.field(p, 1, 0));
        }
    }

    /** "N not 1 .. 4". */
    private static void variablesOneToFour() {
        int[] wrong = {Edges.LEAST, Edges.LEAST + 2, -4, -1, 0, 5, 6, 256 + 2, 65536 + 1, Edges.GREATEST};
        SpaceBasis s = new SpaceBasis();
        for (int n : wrong) {
            Due.refusesArgument("n " + n, () -> s.field(7, n, 0));
        }
        for (int n = 1; n <= 4; n++) {
            s.field(7, n, 0);
            Due.is("n " + n, s.basis(Edges.HIGHEST[n]), 0);
            Due.is("n " + n + ": dimension of nothing", s.ideal(3), n);
        }
    }

    /** "ORDER not 0 or 1". */
    private static void ordersZeroAndOne() {
        int[] wrong = {Edges.LEAST, Edges.LEAST + 1, -2, -1, 2, 3, 256, 65537, Edges.GREATEST};
        SpaceBasis s = new SpaceBasis();
        for (int order : wrong) {
            Due.refusesArgument("order " + order, () -> s.field(7, 3, order));
        }
        int[] greater = {Due.m(0, 2, 0, 0), Due.m(1, 0, 1, 0)};
        for (int order = 0; order <= 1; order++) {
            s.field(7, 3, order);
            Due.joined(s, Due.m(0, 2, 0, 0), 1, Due.m(1, 0, 1, 0), 1);
            s.basis(2);
            Due.is("order " + order, s.lead(0), greater[order]);
        }
    }

    private static void allWrongAtOnce() {
        SpaceBasis s = new SpaceBasis();
        Due.refusesArgument("all wrong", () -> s.field(0, 0, 2));
        Due.refusesArgument("all wrong", () -> s.field(-1, -1, -1));
        Due.refusesArgument("all least", () -> s.field(Edges.LEAST, Edges.LEAST, Edges.LEAST));
        Due.refusesArgument("all greatest", () -> s.field(Edges.GREATEST, Edges.GREATEST, Edges.GREATEST));
        Due.refusesArgument("p and n", () -> s.field(1, 5, 0));
        Due.refusesArgument("p and order", () -> s.field(32009, 4, 2));
        Due.refusesArgument("n and order", () -> s.field(32003, 0, -1));
    }

    /** Something of everything: generators, a basis, a hand, a proved remainder. */
    private static void past(SpaceBasis s) {
        s.field(11, 3, 1);
        Due.joined(s, Due.m(1, 0, 1, 0), 1, Due.m(0, 2, 0, 0), 4, 0, 2);
        Due.joined(s, Due.m(0, 3, 0, 0), 1, Due.m(0, 0, 1, 0), 5);
        s.basis(4);
        s.remainder();
        Due.put(s, Due.m(0, 3, 1, 0), 3, Due.m(2, 0, 0, 0), 9);
    }

    private static void refusedFieldChangesNothing() {
        int[][] wrong = {
            {10, 3, 1}, {1, 3, 1}, {0, 2, 0}, {-7, 2, 0}, {32009, 2, 0}, {Edges.GREATEST, 2, 0}, {7, 0, 0},
            {7, 5, 0}, {7, Edges.LEAST, 1}, {5, 2, -1}, {5, 2, 2}, {5, 4, Edges.GREATEST}
        };
        for (int[] f : wrong) {
            Consumer<SpaceBasis> call = s -> s.field(f[0], f[1], f[2]);
            String what = "refused field " + f[0] + ", " + f[1] + ", " + f[2];
            Twins.refusesArgument(what, FieldEdgesTest::past, call);
            Twins.refusesArgument(what + " of a new object", s -> { }, call);
        }
    }

    /** "no generators": from eight to none, and eight fit again. */
    private static void fieldTakesGeneratorsAway() {
        for (int n = 1; n <= 4; n++) {
            SpaceBasis s = Edges.of(7, n, 0);
            Edges.eightGenerators(s, n);
            s.field(7, n, 0);
            Due.is("after field: basis", s.basis(Edges.HIGHEST[n]), 0);
            Due.is("after field: complete", s.ideal(0), 1);
            Edges.eightGenerators(s, n);
        }
    }

    /** "the polynomial in hand is 0": from one with every monomial. */
    private static void fieldEmptiesTheHand() {
        for (int n = 1; n <= 4; n++) {
            SpaceBasis s = Edges.of(7, n, 0);
            Edges.fillHand(s, 7, n);
            s.field(7, n, 0);
            Edges.emptyHand("after field, n " + n, s, n);
            Due.refusesArgument("after field: join", s::join);
        }
    }

    private static void fieldTakesTheBasisAway() {
        SpaceBasis s = new SpaceBasis();
        past(s);
        s.field(11, 3, 1);
        Edges.withoutBasis("after field", s);
    }

    private static void fieldOfTheSameNumbers() {
        Twins.becomes("the same field again", FieldEdgesTest::past, s -> s.field(11, 3, 1), s -> s.clear());
    }

    /** Nothing of more variables is left with fewer ones, nor the other way. */
    private static void fieldOfOtherVariables() {
        for (int before = 1; before <= 4; before++) {
            for (int after = 1; after <= 4; after++) {
                String what = "from n " + before + " to " + after;
                SpaceBasis s = Edges.of(7, before, 1);
                Edges.fillHand(s, 7, before);
                s.join();
                s.basis(Edges.HIGHEST[before]);
                s.coefficient(Edges.UNIT[0] * Edges.HIGHEST[before], 1);
                s.field(5, after, 0);
                Edges.withoutBasis(what, s);
                Edges.emptyHand(what, s, after);
                int n = after;
                Due.refusesArgument(what, () -> s.basis(Edges.HIGHEST[n] + 1));
                Due.is(what, s.basis(Edges.HIGHEST[n]), 0);
                Due.is(what, s.ideal(3), n);
            }
        }
    }

    private static void fieldOfASmallerPrime() {
        SpaceBasis s = Edges.of(32003, 2, 0);
        s.coefficient(0, 32002);
        s.field(2, 2, 0);
        Due.is("of the greater prime", s.hand(0), 0);
        s.coefficient(0, 32002);
        Due.is("32002 modulo 2", s.hand(0), 0);
        s.coefficient(0, -1);
        Due.is("-1 modulo 2", s.hand(0), 1);
        s.field(32003, 2, 0);
        s.coefficient(0, -1);
        Due.is("-1 modulo 32003", s.hand(0), 32002);
    }

    /** Promise 13's "since the beginning" goes on through a new field. */
    private static void fieldLeavesProved() {
        SpaceBasis s = new SpaceBasis();
        s.basis(3);
        s.remainder();
        s.field(3, 1, 1);
        Due.is("proved() after field", s.proved(), 1);
        Due.refusesArgument("a refused one", () -> s.field(4, 1, 1));
        Due.is("proved() after a refused field", s.proved(), 1);
    }
}
