import java.util.function.Consumer;

/** The boundary cases of promises 10 "ideal" and 11 "standard", a test for each sentence. */
public final class IdealEdgesTest {
    private static final int X = Edges.UNIT[0];
    private static final int Y = Edges.UNIT[1];
    private static final int Z = Edges.UNIT[2];
    private static final int W = Edges.UNIT[3];
    private static final int[] FAR_OUT = {
        Edges.LEAST, Edges.LEAST + 3, -65536, -256, -4, -3, -2, -1, 256, 65536, 65539, 1 << 24, Edges.GREATEST
    };

    public static void main(String[] args) {
        idealOfAnotherWhat();
        idealWithoutABasis();
        completeWithoutGenerators();
        completeOnlyWithEachGenerator();
        completeWithALowMultiple();
        completeWithAProduct();
        completeNotWithOnePairTooHigh();
        completeOfOnePolynomial();
        completeOfEverything();
        completeAfterALargerBasis();
        countOfPolynomials();
        degreeUpToWhich();
        dimensionFromZeroToN();
        dimensionOfMixedMonomials();
        dimensionOfOne();
        dimensionIfNotComplete();
        idealChangesNothing();
        standardOfAnotherDegree();
        standardWithoutABasis();
        standardOfNothing();
        standardOfEverything();
        standardOfOneLead();
        standardOfMultiples();
        standardChangesNothing();
        Due.end("IdealEdgesTest");
    }

    private static SpaceBasis monomials(int n, int... generators) {
        SpaceBasis s = Edges.of(7, n, 0);
        for (int e : generators) {
            Due.joined(s, e, 1);
        }
        return s;
    }

    private static void complete(String what, SpaceBasis s, int d, int want) {
        s.basis(d);
        Due.is(what + " up to " + d, s.ideal(0), want);
        if (want == 0) {
            Due.is(what + " up to " + d + ": dimension", s.ideal(3), SpaceBasis.NONE);
        }
    }

    /** "NONE .. for another what." */
    private static void idealOfAnotherWhat() {
        SpaceBasis s = monomials(2, X);
        s.basis(4);
        int[] within = {1, 1, 4, 1};
        for (int what = 0; what <= 3; what++) {
            Due.is("ideal(" + what + ")", s.ideal(what), within[what]);
        }
        for (int what = 4; what <= 40; what++) {
            Due.is("ideal(" + what + ")", s.ideal(what), SpaceBasis.NONE);
        }
        for (int what : FAR_OUT) {
            Due.is("ideal(" + what + ")", s.ideal(what), SpaceBasis.NONE);
        }
    }

    /** "NONE without a basis". */
    private static void idealWithoutABasis() {
        SpaceBasis s = new SpaceBasis();
        idealIsNone("new", s);
        Due.joined(s, X, 1);
        idealIsNone("a generator alone", s);
        Due.refusesArgument("basis(13)", () -> s.basis(13));
        idealIsNone("a refused basis", s);
        s.basis(12);
        Due.is("with a basis", s.ideal(2), 12);
        Due.joined(s, Y, 1);
        idealIsNone("another generator", s);
        s.basis(12);
        s.clear();
        idealIsNone("after clear", s);
        s.basis(0);
        s.field(7, 2, 0);
        idealIsNone("after field", s);
    }

    private static void idealIsNone(String when, SpaceBasis s) {
        for (int what = -1; what <= 4; what++) {
            Due.is(when + ": ideal(" + what + ")", s.ideal(what), SpaceBasis.NONE);
        }
    }

    /** No generator is above, and there are no two polynomials. */
    private static void completeWithoutGenerators() {
        for (int n = 1; n <= 4; n++) {
            SpaceBasis s = Edges.of(7, n, 0);
            for (int d = 0; d <= Edges.HIGHEST[n]; d++) {
                complete("no generators, n " + n, s, d, 1);
                Due.is("no generators: dimension", s.ideal(3), n);
            }
        }
    }

    /** "COMPLETE if all generators are of degree at most D": even if one gives nothing new. */
    private static void completeOnlyWithEachGenerator() {
        for (int n = 1; n <= 4; n++) {
            for (int d = 1; d <= Edges.HIGHEST[n]; d++) {
                SpaceBasis first = monomials(n, X * d, X);
                complete("x^" + d + " first", first, d - 1, 0);
                complete("x^" + d + " first", first, d, 1);
                SpaceBasis last = monomials(n, X, X * d);
                complete("x^" + d + " last", last, d - 1, 0);
                complete("x^" + d + " last", last, d, 1);
            }
        }
        SpaceBasis eighth = monomials(2, X, X, X, X, X, X, X, 5 * Y);
        complete("the eighth is above", eighth, 4, 0);
        complete("the eighth is not above", eighth, 5, 1);
    }

    /** "the least common multiple of their leading monomials is of degree at most D". */
    private static void completeWithALowMultiple() {
        SpaceBasis s = monomials(2, 2 * X + 3 * Y, 4 * X + Y);
        complete("x^4 y^3", s, 5, 0);
        complete("x^4 y^3", s, 6, 0);
        complete("x^4 y^3", s, 7, 1);
        complete("x^4 y^3", s, 12, 1);
        SpaceBasis high = monomials(2, 6 * X + 1 * Y, 7 * Y);
        complete("x^6 y^7", high, 11, 0);
        complete("x^6 y^7 is above the highest", high, 12, 0);
        SpaceBasis just = monomials(2, 6 * X + 1 * Y, 6 * Y);
        complete("x^6 y^6", just, 11, 0);
        complete("x^6 y^6 is the highest", just, 12, 1);
        SpaceBasis four = monomials(4, X + Y, Y + Z, Z + W);
        complete("x y z", four, 2, 0);
        complete("x y z", four, 3, 1);
    }

    /** "or is their product". */
    private static void completeWithAProduct() {
        SpaceBasis s = monomials(2, 7 * X, 8 * Y);
        complete("x^7 y^8", s, 7, 0);
        complete("x^7 y^8", s, 8, 1);
        complete("x^7 y^8", s, 12, 1);
        SpaceBasis four = monomials(4, 5 * X, 5 * Y, 5 * Z, 5 * W);
        complete("all fifth powers", four, 5, 1);
        complete("all fifth powers", four, 4, 0);
        SpaceBasis nearly = monomials(2, 7 * X, X + 7 * Y);
        complete("x^7 and x y^7 have x in common", nearly, 12, 0);
        SpaceBasis pairs = monomials(4, X + Y, Z + W);
        complete("x y and z w", pairs, 2, 1);
    }

    /** "for any two of its polynomials": one pair is enough, wherever it stands. */
    private static void completeNotWithOnePairTooHigh() {
        complete("the first two", monomials(3, X + 2 * Y, 2 * X + Y, 2 * Z), 3, 0);
        complete("the last two", monomials(3, 2 * Z, X + 2 * Y, 2 * X + Y), 3, 0);
        complete("the first and the last", monomials(3, X + 2 * Y, 3 * Z, 2 * X + Y), 3, 0);
        complete("the first and the last", monomials(3, X + 2 * Y, 3 * Z, 2 * X + Y), 4, 1);
        complete("none", monomials(3, 3 * Y, 3 * X, 3 * Z), 3, 1);
    }

    private static void completeOfOnePolynomial() {
        for (int n = 1; n <= 4; n++) {
            for (int d = 0; d <= Edges.HIGHEST[n]; d++) {
                SpaceBasis s = monomials(n, Edges.UNIT[n - 1] * d);
                complete("one polynomial", s, d, 1);
                if (d > 0) {
                    complete("one polynomial above", s, d - 1, 0);
                }
            }
        }
    }

    private static void completeOfEverything() {
        SpaceBasis s = monomials(3, 0, 7 * X);
        complete("1 and x^7", s, 0, 0);
        complete("1 and x^7", s, 6, 0);
        complete("1 and x^7", s, 7, 1);
        Due.is("1 and x^7: one polynomial", s.ideal(1), 1);
    }

    /** Nothing of an earlier basis with more polynomials is looked at. */
    private static void completeAfterALargerBasis() {
        for (int more = 1; more <= 7; more++) {
            SpaceBasis s = new SpaceBasis();
            for (int g = 0; g <= more; g++) {
                Due.joined(s, Due.m(g, 7 - g), 1);
            }
            complete("x^i y^j of degree 7", s, 7, 0);
            s.clear();
            Due.joined(s, Due.m(2, 1), 1);
            complete("x^2 y alone", s, 3, 1);
            Due.is("x^2 y alone: dimension", s.ideal(3), 1);
            s.clear();
            complete("nothing", s, 7, 1);
            Due.is("nothing: dimension", s.ideal(3), 2);
        }
    }

    /** "how many polynomials it has (1)". */
    private static void countOfPolynomials() {
        for (int count = 0; count <= 8; count++) {
            SpaceBasis s = new SpaceBasis();
            for (int g = 0; g < count; g++) {
                Due.joined(s, Due.m(g, 7 - g), 1);
            }
            Due.is("basis(7) of " + count, s.basis(7), count);
            Due.is("ideal(1) of " + count, s.ideal(1), count);
            s.basis(6);
            Due.is("ideal(1) below", s.ideal(1), 0);
        }
    }

    /** "the degree up to which (2)". */
    private static void degreeUpToWhich() {
        for (int n = 1; n <= 4; n++) {
            SpaceBasis s = monomials(n, X);
            for (int d = 0; d <= Edges.HIGHEST[n]; d++) {
                s.basis(d);
                Due.is("n " + n + ": ideal(2)", s.ideal(2), d);
            }
            for (int d = Edges.HIGHEST[n]; d >= 0; d--) {
                s.basis(d);
                Due.is("n " + n + ": ideal(2), down", s.ideal(2), d);
            }
        }
    }

    /** "the greatest number of variables of which alone no leading monomial is made". */
    private static void dimensionFromZeroToN() {
        for (int n = 1; n <= 4; n++) {
            for (int without = 0; without < 1 << n; without++) {
                SpaceBasis s = Edges.of(7, n, 1);
                for (int v = 0; v < n; v++) {
                    if ((without >> v & 1) == 1) {
                        Due.joined(s, 2 * Edges.UNIT[v], 1, 0, 1);
                    }
                }
                s.basis(Edges.HIGHEST[n]);
                int want = n - Integer.bitCount(without);
                Due.is("n " + n + ", squares of " + without, s.ideal(3), want);
            }
        }
    }

    private static void dimensionOfMixedMonomials() {
        dimension("x y", 2, 1, X + Y);
        dimension("x^2, x y, y^2", 2, 0, 2 * X, X + Y, 2 * Y);
        dimension("x y, x z, y z", 3, 1, X + Y, X + Z, Y + Z);
        dimension("x y z", 3, 2, X + Y + Z);
        dimension("x y, z", 3, 1, X + Y, Z);
        dimension("x y, x z", 3, 2, X + Y, X + Z);
        dimension("x y z w", 4, 3, X + Y + Z + W);
        dimension("x w, y w, z w", 4, 3, X + W, Y + W, Z + W);
        dimension("x y, y z, z w", 4, 2, X + Y, Y + Z, Z + W);
        dimension("x, y^2, z^3", 4, 1, X, 2 * Y, 3 * Z);
    }

    private static void dimension(String what, int n, int want, int... generators) {
        SpaceBasis s = monomials(n, generators);
        s.basis(Edges.HIGHEST[n]);
        Due.is(what + ": complete", s.ideal(0), 1);
        Due.is(what + ": dimension", s.ideal(3), want);
    }

    /** "NONE if 1 is in the ideal". */
    private static void dimensionOfOne() {
        for (int n = 1; n <= 4; n++) {
            SpaceBasis s = monomials(n, 0);
            for (int d = 0; d <= Edges.HIGHEST[n]; d++) {
                complete("1, n " + n, s, d, 1);
                Due.is("1: dimension", s.ideal(3), SpaceBasis.NONE);
            }
            SpaceBasis t = monomials(n, X);
            Due.joined(t, X, 1, 0, 1);
            complete("x and x + 1", t, 1, 1);
            Due.is("x and x + 1: dimension", t.ideal(3), SpaceBasis.NONE);
        }
        SpaceBasis late = new SpaceBasis();
        Due.joined(late, X + Y, 1, 0, 1);
        Due.joined(late, 2 * X, 1);
        // x (x y + 1) - y x^2 is x, and then x y and 1: that needs 3.
        complete("x y + 1 and x^2", late, 2, 0);
        complete("x y + 1 and x^2", late, 3, 1);
        Due.is("x y + 1 and x^2: dimension", late.ideal(3), SpaceBasis.NONE);
    }

    /** "if it is complete the dimension (3) .. NONE .. (3) if it is not complete". */
    private static void dimensionIfNotComplete() {
        SpaceBasis s = monomials(3, X, 3 * Y);
        int[] want = {SpaceBasis.NONE, SpaceBasis.NONE, SpaceBasis.NONE, 1, 1};
        for (int d = 0; d < want.length; d++) {
            s.basis(d);
            Due.is("x and y^3 up to " + d, s.ideal(3), want[d]);
            Due.is("x and y^3 up to " + d + ": complete", s.ideal(0), d < 3 ? 0 : 1);
        }
    }

    private static void past(SpaceBasis s) {
        s.field(13, 3, 1);
        Due.joined(s, X + Z, 2, 2 * Y, 4, 0, 2);
        Due.joined(s, 2 * Y, 1, Z, 5);
        Due.put(s, 2 * Y + Z, 3, 0, 12);
    }

    private static void idealChangesNothing() {
        Consumer<SpaceBasis> withBasis = s -> {
            past(s);
            s.basis(5);
        };
        for (int what : new int[] {-1, 0, 1, 2, 3, 4, Edges.LEAST, Edges.GREATEST}) {
            Twins.alike("ideal(" + what + ")", withBasis, s -> s.ideal(what));
            Twins.alike("ideal(" + what + ") without a basis", IdealEdgesTest::past, s -> s.ideal(what));
        }
    }

    /** Promise 11: "up to the basis' degree; NONE .. for another d". */
    private static void standardOfAnotherDegree() {
        for (int n = 1; n <= 4; n++) {
            SpaceBasis s = monomials(n, X);
            for (int upTo = 0; upTo <= Edges.HIGHEST[n]; upTo += n == 1 ? 6 : 1) {
                s.basis(upTo);
                for (int d = -3; d <= Edges.HIGHEST[n] + 3; d++) {
                    boolean within = d >= 0 && d <= upTo;
                    String what = "n " + n + " up to " + upTo + ": standard(" + d + ")";
                    Due.is(what, s.standard(d) == SpaceBasis.NONE ? 0 : 1, within ? 1 : 0);
                }
            }
            for (int d : FAR_OUT) {
                Due.is("n " + n + ": standard(" + d + ")", s.standard(d), SpaceBasis.NONE);
            }
        }
    }

    /** "NONE without a basis". */
    private static void standardWithoutABasis() {
        SpaceBasis s = new SpaceBasis();
        standardIsNone("new", s);
        Due.joined(s, X, 1);
        standardIsNone("a generator alone", s);
        s.basis(12);
        Due.is("with a basis", s.standard(12), 1);
        Due.joined(s, Y, 1);
        standardIsNone("another generator", s);
        s.basis(12);
        s.clear();
        standardIsNone("after clear", s);
        s.basis(12);
        s.field(7, 2, 0);
        standardIsNone("after field", s);
    }

    private static void standardIsNone(String when, SpaceBasis s) {
        for (int d = -2; d <= 13; d++) {
            Due.is(when + ": standard(" + d + ")", s.standard(d), SpaceBasis.NONE);
        }
    }

    /** No generators: every monomial is left. */
    private static void standardOfNothing() {
        for (int n = 1; n <= 4; n++) {
            SpaceBasis s = Edges.of(7, n, 0);
            s.basis(Edges.HIGHEST[n]);
            for (int d = 0; d <= Edges.HIGHEST[n]; d++) {
                Due.is("nothing, n " + n + ", degree " + d, s.standard(d), Edges.ofDegree(n, d).size());
            }
        }
    }

    /** 1 is in the space: none is left. */
    private static void standardOfEverything() {
        for (int n = 1; n <= 4; n++) {
            SpaceBasis s = monomials(n, 0);
            s.basis(Edges.HIGHEST[n]);
            for (int d = 0; d <= Edges.HIGHEST[n]; d++) {
                Due.is("everything, n " + n + ", degree " + d, s.standard(d), 0);
            }
        }
    }

    /** Just one lead, of the basis' degree: first and last of the monomials of that degree. */
    private static void standardOfOneLead() {
        for (int n = 1; n <= 4; n++) {
            for (int v : new int[] {0, n - 1}) {
                for (int d = 0; d <= Edges.HIGHEST[n]; d++) {
                    SpaceBasis s = monomials(n, Edges.UNIT[v] * d);
                    s.basis(d);
                    Due.is("one lead, n " + n, s.standard(d), Edges.ofDegree(n, d).size() - 1);
                    if (d > 0) {
                        Due.is("below it, n " + n, s.standard(d - 1), Edges.ofDegree(n, d - 1).size());
                    }
                }
            }
        }
    }

    /** A lead's multiples are leads of the space too, though none of the basis. */
    private static void standardOfMultiples() {
        for (int n = 1; n <= 4; n++) {
            SpaceBasis s = monomials(n, X);
            s.basis(Edges.HIGHEST[n]);
            for (int d = 1; d <= Edges.HIGHEST[n]; d++) {
                int without = Edges.ofDegree(n, d).size() - Edges.ofDegree(n, d - 1).size();
                Due.is("without x, n " + n + ", degree " + d, s.standard(d), without);
            }
        }
    }

    private static void standardChangesNothing() {
        Consumer<SpaceBasis> withBasis = s -> {
            past(s);
            s.basis(5);
        };
        for (int d : new int[] {-1, 0, 5, 6, Edges.LEAST, Edges.GREATEST}) {
            Twins.alike("standard(" + d + ")", withBasis, s -> s.standard(d));
            Twins.alike("standard(" + d + ") without a basis", IdealEdgesTest::past, s -> s.standard(d));
        }
    }
}
