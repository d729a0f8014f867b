import java.util.List;
import java.util.function.Consumer;

/** The boundary cases of promises 3 "coefficient" and 4 "hand", a test for each sentence. */
public final class HandEdgesTest {
    // Bytes that stand for exponents inside, just outside, and so great that their sums wrap.
    private static final int[] BYTES = {0, 1, 2, 4, 5, 6, 7, 8, 12, 13, 30, 31, 64, 127, 128, 254, 255};

    public static void main(String[] args) {
        justTheMonomialsUpToHighest();
        eachBoundOfEachVariable();
        sumsOfExponents();
        exponentsThatWrap();
        numbersModuloP();
        coefficientReplaces();
        coefficientOfZeroTakesAway();
        coefficientChangesOneMonomial();
        coefficientLeavesTheRest();
        refusedCoefficientChangesNothing();
        handOfNoMonomial();
        handChangesNothing();
        handOfAnEmptyHand();
        Due.end("HandEdgesTest");
    }

    private static boolean takes(SpaceBasis s, int e) {
        try {
            s.coefficient(e, 1);
            return true;
        } catch (IllegalArgumentException refused) {
            return false;
        }
    }

    /** "IllegalArgumentException: e is no monomial of the variables up to HIGHEST". */
    private static void justTheMonomialsUpToHighest() {
        for (int n = 1; n <= 4; n++) {
            List<Integer> monomials = Edges.upToDegree(n, Edges.HIGHEST[n]);
            SpaceBasis s = Edges.of(7, n, 0);
            int calls = 0;
            for (int i = 0; i < BYTES.length * BYTES.length; i++) {
                for (int j = 0; j < BYTES.length * BYTES.length; j++) {
                    if (calls++ % 500 == 0) {
                        s = Edges.of(7, n, 0);
                    }
                    int e = BYTES[i / BYTES.length] << 24 | BYTES[i % BYTES.length] << 16
                        | BYTES[j / BYTES.length] << 8 | BYTES[j % BYTES.length];
                    boolean due = monomials.contains(e);
                    Due.is("n " + n + ": coefficient(" + e + ")", takes(s, e) ? 1 : 0, due ? 1 : 0);
                }
            }
        }
    }

    /** The highest power of a variable is one, the next is none. */
    private static void eachBoundOfEachVariable() {
        for (int n = 1; n <= 4; n++) {
            for (int v = 0; v < n; v++) {
                SpaceBasis s = Edges.of(7, n, 1);
                int inside = Edges.UNIT[v] * Edges.HIGHEST[n];
                int outside = inside + Edges.UNIT[v];
                s.coefficient(inside, 4);
                Due.is("n " + n + ": highest power of " + v, s.hand(inside), 4);
                Due.refusesArgument("n " + n + ": next power of " + v, () -> s.coefficient(outside, 4));
                Due.is("n " + n + ": hand of the next power of " + v, s.hand(outside), 0);
                Due.is("n " + n + ": it stays", s.hand(inside), 4);
            }
        }
    }

    /** The degree is the sum of the exponents: each may be low and the sum too high. */
    private static void sumsOfExponents() {
        for (int n = 2; n <= 4; n++) {
            for (int e : Edges.ofDegree(n, Edges.HIGHEST[n] + 1)) {
                SpaceBasis s = Edges.of(7, n, 0);
                Due.refusesArgument("n " + n + ": one too high " + e, () -> s.coefficient(e, 1));
            }
            SpaceBasis s = Edges.of(7, n, 0);
            for (int e : Edges.ofDegree(n, Edges.HIGHEST[n])) {
                s.coefficient(e, 1);
                Due.is("n " + n + ": just the highest " + e, s.hand(e), 1);
            }
        }
    }

    /** Negative numbers, and exponents whose sum would be low if it wrapped round at 256. */
    private static void exponentsThatWrap() {
        int[] wrong = {
            -1, -2, -256, -65536, -16777216, Edges.LEAST, Edges.LEAST + 1, Edges.GREATEST,
            255 << 24 | 1 << 16, 255 << 24 | 2 << 16, 128 << 24 | 128 << 16, 129 << 24 | 128 << 16,
            64 << 24 | 64 << 16 | 64 << 8 | 64, 1 << 24 | 255, 1 << 16 | 255, 31 << 24, 255 << 24, 255 << 16,
            255 << 8, 255
        };
        for (int n = 1; n <= 4; n++) {
            SpaceBasis s = Edges.of(7, n, 0);
            for (int e : wrong) {
                Due.refusesArgument("n " + n + ": coefficient(" + e + ")", () -> s.coefficient(e, 1));
                Due.is("n " + n + ": hand(" + e + ")", s.hand(e), 0);
            }
            Due.refusesArgument("n " + n + ": nothing came in", s::join);
        }
    }

    /** "has a coefficient (modulo P)". */
    private static void numbersModuloP() {
        for (int p : new int[] {2, 3, 7, 32003}) {
            SpaceBasis s = Edges.of(p, 4, 0);
            long[] numbers = {
                Edges.LEAST, Edges.LEAST + 1L, -2L * p, -p - 1L, -p, 1L - p, -1, 0, 1, p - 1L, p, p + 1L, 2L * p,
                Edges.GREATEST - 1L, Edges.GREATEST
            };
            for (long c : numbers) {
                s.coefficient(5, (int) c);
                Due.is(c + " modulo " + p, s.hand(5), Math.floorMod(c, (long) p));
            }
        }
    }

    private static void coefficientReplaces() {
        SpaceBasis s = new SpaceBasis();
        s.coefficient(Due.m(1, 1), 5);
        s.coefficient(Due.m(1, 1), 5);
        Due.is("5 and 5 again", s.hand(Due.m(1, 1)), 5);
        s.coefficient(Due.m(1, 1), -2);
        Due.is("then -2", s.hand(Due.m(1, 1)), 5);
        s.coefficient(Due.m(1, 1), 3);
        Due.is("then 3", s.hand(Due.m(1, 1)), 3);
    }

    /** A coefficient that is 0 modulo P is none: the polynomial is 0 again. */
    private static void coefficientOfZeroTakesAway() {
        for (int zero : new int[] {0, 7, -7, 7 * 306783378, -7 * 306783378}) {
            SpaceBasis s = new SpaceBasis();
            s.coefficient(Due.m(0, 12), 1);
            s.coefficient(Due.m(0, 12), zero);
            Due.is("taken away by " + zero, s.hand(Due.m(0, 12)), 0);
            Due.refusesArgument("0 does not join", s::join);
            s.basis(0);
            Due.holds("0 is not of too high a degree", s.remainder());
        }
    }

    private static void coefficientChangesOneMonomial() {
        for (int n = 1; n <= 4; n++) {
            List<Integer> all = Edges.upToDegree(n, Edges.HIGHEST[n]);
            for (int i = 0; i < all.size(); i += 5) {
                SpaceBasis s = Edges.of(101, n, 1);
                s.coefficient(all.get(i), 77);
                for (int j = 0; j < all.size(); j++) {
                    Due.is("n " + n + ": " + i + ", " + j, s.hand(all.get(j)), i == j ? 77 : 0);
                }
            }
        }
    }

    private static void past(SpaceBasis s) {
        s.field(13, 3, 1);
        Due.joined(s, Due.m(1, 0, 1, 0), 2, Due.m(0, 2, 0, 0), 4, 0, 2);
        Due.joined(s, Due.m(0, 2, 0, 0), 1, Due.m(0, 0, 1, 0), 5);
        s.basis(3);
        s.remainder();
        Due.put(s, Due.m(0, 2, 1, 0), 3, 0, 12);
    }

    /** Only the hand changes: there and back again nothing has. */
    private static void coefficientLeavesTheRest() {
        Twins.alike("there and back", HandEdgesTest::past, s -> {
            s.coefficient(Due.m(7, 0, 0, 0), 5);
            s.coefficient(0, 4);
            s.coefficient(Due.m(7, 0, 0, 0), 0);
            s.coefficient(0, -1);
        });
    }

    private static void refusedCoefficientChangesNothing() {
        int[] wrong = {
            Due.m(8, 0, 0, 0), Due.m(0, 0, 8, 0), Due.m(3, 3, 2, 0), 1, Due.m(1, 1, 1, 1), -1, Edges.LEAST,
            Edges.GREATEST, 255 << 16
        };
        for (int e : wrong) {
            for (int c : new int[] {1, 0, 13, Edges.LEAST}) {
                Consumer<SpaceBasis> call = s -> s.coefficient(e, c);
                Twins.refusesArgument("coefficient(" + e + ", " + c + ")", HandEdgesTest::past, call);
            }
        }
    }

    /** "0 if e is none": also with every monomial in hand. */
    private static void handOfNoMonomial() {
        for (int n = 1; n <= 4; n++) {
            List<Integer> monomials = Edges.upToDegree(n, Edges.HIGHEST[n]);
            for (int i = 0; i < BYTES.length * BYTES.length; i++) {
                SpaceBasis s = Edges.of(7, n, 0);
                Edges.fillHand(s, 7, n);
                for (int j = 0; j < BYTES.length * BYTES.length; j++) {
                    int e = BYTES[i / BYTES.length] << 24 | BYTES[i % BYTES.length] << 16
                        | BYTES[j / BYTES.length] << 8 | BYTES[j % BYTES.length];
                    boolean due = monomials.contains(e);
                    Due.is("n " + n + ": hand(" + e + ") is not 0", s.hand(e) != 0 ? 1 : 0, due ? 1 : 0);
                }
            }
        }
    }

    private static void handChangesNothing() {
        for (int e : new int[] {0, Due.m(0, 2, 1, 0), Due.m(7, 0, 0, 0), Due.m(8, 0, 0, 0), 1, -1, Edges.LEAST}) {
            Twins.alike("hand(" + e + ")", HandEdgesTest::past, s -> s.hand(e));
        }
    }

    private static void handOfAnEmptyHand() {
        for (int n = 1; n <= 4; n++) {
            SpaceBasis s = Edges.of(7, n, 0);
            Edges.emptyHand("n " + n, s, n);
        }
    }
}
