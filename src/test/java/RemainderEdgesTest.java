import java.util.List;
import java.util.function.Consumer;

/** The boundary cases of promises 12 "remainder" and 13 "proved", a test for each sentence. */
public final class RemainderEdgesTest {
    private static final int X = Edges.UNIT[0];
    private static final int Y = Edges.UNIT[1];
    private static final int Z = Edges.UNIT[2];

    public static void main(String[] args) {
        refusedWithoutABasis();
        refusedWhenTheBasisIsGone();
        refusedAboveTheDegree();
        degreeJustWithin();
        degreeOfTheHighest();
        degreeOfZero();
        degreeOfANumber();
        degreeOfWhatWasTakenAway();
        zeroIfInTheSpace();
        notZeroIfNotInTheSpace();
        remainderWithoutGenerators();
        remainderOfEverything();
        remainderOfAFullHand();
        remainderTwice();
        remainderDiffersByOneOfTheSpace();
        remainderNeedsTheDegree();
        remainderLeavesTheRest();
        provedFromZero();
        provedNotIfNotZero();
        provedNotIfRefused();
        provedOfZero();
        provedEachTime();
        provedSinceTheBeginning();
        provedOfEachRow();
        provedOfFalls();
        provedChangesNothing();
        Due.end("RemainderEdgesTest");
    }

    private static void generators(SpaceBasis s) {
        s.field(13, 3, 1);
        Due.joined(s, X + Z, 2, 2 * Y, 4, 0, 2);
        Due.joined(s, 2 * Y, 1, Z, 5);
    }

    /** "IllegalStateException: there is no basis": whatever is in hand. */
    private static void refusedWithoutABasis() {
        Twins.refusesState("new", s -> { }, SpaceBasis::remainder);
        Twins.refusesState("0 in hand", RemainderEdgesTest::generators, SpaceBasis::remainder);
        for (int e : new int[] {0, X, 7 * Z}) {
            Consumer<SpaceBasis> past = s -> {
                generators(s);
                s.coefficient(e, 4);
            };
            Twins.refusesState("in hand " + e, past, SpaceBasis::remainder);
        }
        Consumer<SpaceBasis> refused = s -> {
            generators(s);
            s.coefficient(Y, 4);
            Due.refusesArgument("basis(8)", () -> s.basis(8));
        };
        Twins.refusesState("after a refused basis", refused, SpaceBasis::remainder);
    }

    private static void refusedWhenTheBasisIsGone() {
        Consumer<SpaceBasis> join = s -> {
            generators(s);
            s.basis(4);
            Due.joined(s, X, 1);
            s.coefficient(X, 1);
        };
        Twins.refusesState("after join", join, SpaceBasis::remainder);
        Consumer<SpaceBasis> clear = s -> {
            generators(s);
            s.basis(4);
            s.clear();
        };
        Twins.refusesState("after clear", clear, SpaceBasis::remainder);
        Consumer<SpaceBasis> field = s -> {
            generators(s);
            s.basis(4);
            s.field(13, 3, 1);
        };
        Twins.refusesState("after field", field, SpaceBasis::remainder);
    }

    /** "or it is of a higher degree than that": just one above, for each degree. */
    private static void refusedAboveTheDegree() {
        for (int n = 1; n <= 4; n++) {
            for (int d = 0; d < Edges.HIGHEST[n]; d++) {
                for (int v = 0; v < n; v++) {
                    SpaceBasis s = Edges.of(7, n, 0);
                    Due.joined(s, X, 1);
                    s.basis(d);
                    int above = Edges.UNIT[v] * (d + 1);
                    s.coefficient(above, 3);
                    s.coefficient(0, 2);
                    Due.refusesState("n " + n + ", one above " + d, s::remainder);
                    Due.is("hand is left", s.hand(above), 3);
                    Due.is("hand is left", s.hand(0), 2);
                    Due.is("the basis is left", s.ideal(2), d);
                }
            }
        }
        for (int e : new int[] {5 * X, X + 4 * Z, 7 * Y}) {
            Consumer<SpaceBasis> past = s -> {
                generators(s);
                s.basis(4);
                s.remainder();
                Due.put(s, e, 1, 2 * Y, 1, X + Z, 3);
            };
            Twins.refusesState("in hand " + e, past, SpaceBasis::remainder);
        }
    }

    /** "a polynomial of degree at most D": just D. */
    private static void degreeJustWithin() {
        for (int n = 1; n <= 4; n++) {
            for (int d = 1; d <= Edges.HIGHEST[n]; d++) {
                for (int v = 0; v < n; v++) {
                    SpaceBasis s = Edges.of(7, n, 0);
                    Due.joined(s, X, 1);
                    s.basis(d);
                    int within = Edges.UNIT[v] * d;
                    s.coefficient(within, 3);
                    Due.is("n " + n + ", just " + d, s.remainder() ? 1 : 0, v == 0 ? 1 : 0);
                    Due.is("n " + n + ", hand", s.hand(within), v == 0 ? 0 : 3);
                }
            }
        }
    }

    /** With the highest basis nothing is too high. */
    private static void degreeOfTheHighest() {
        for (int n = 1; n <= 4; n++) {
            SpaceBasis s = Edges.of(7, n, 1);
            Due.joined(s, 0, 1);
            s.basis(Edges.HIGHEST[n]);
            for (int e : Edges.ofDegree(n, Edges.HIGHEST[n])) {
                s.coefficient(e, 1);
                Due.holds("n " + n + ", the highest " + e, s.remainder());
            }
        }
    }

    /** "its degree .. (NONE without any)": 0 is never too high. */
    private static void degreeOfZero() {
        for (int n = 1; n <= 4; n++) {
            for (int d = 0; d <= Edges.HIGHEST[n]; d++) {
                SpaceBasis s = Edges.of(7, n, 0);
                s.basis(d);
                Due.holds("0 without generators", s.remainder());
                Due.joined(s, X, 1);
                s.basis(d);
                Due.holds("0 with a generator", s.remainder());
            }
        }
    }

    /** The degree of a number is 0: it is not too high for any basis. */
    private static void degreeOfANumber() {
        SpaceBasis s = new SpaceBasis();
        Due.joined(s, X, 1);
        s.basis(0);
        s.coefficient(0, 5);
        Due.fails("5 up to 0", s.remainder());
        Due.is("5 is left", s.hand(0), 5);
        s.coefficient(Y, 1);
        Due.refusesState("y + 5 up to 0", s::remainder);
        s.coefficient(Y, 0);
        s.join();
        s.basis(0);
        s.coefficient(0, 6);
        Due.holds("6 up to 0 with 5 as a generator", s.remainder());
    }

    /** A monomial with coefficient 0 is not one of the polynomial's. */
    private static void degreeOfWhatWasTakenAway() {
        SpaceBasis s = new SpaceBasis();
        Due.joined(s, X, 1, Y, 1);
        s.basis(1);
        Due.put(s, 12 * X, 3, Y, 2);
        Due.refusesState("x^12", s::remainder);
        s.coefficient(12 * X, 7);
        Due.fails("x^12 was taken away", s.remainder());
        Due.is("2 y", s.hand(Y), 2);
    }

    /** "whether that is 0": a generator, a product, a sum, each of just the basis' degree. */
    private static void zeroIfInTheSpace() {
        SpaceBasis s = new SpaceBasis();
        generators(s);
        s.basis(3);
        Due.put(s, X + Z, 2, 2 * Y, 4, 0, 2);
        Due.holds("a generator", s.remainder());
        Due.put(s, X + 2 * Z, 2, 2 * Y + Z, 4, Z, 2);
        Due.holds("z times it", s.remainder());
        Due.put(s, 3 * Y, 5, Y + Z, 25, 2 * X + Z, 2, X + 2 * Y, 4, X, 2);
        Due.holds("a sum of products", s.remainder());
        for (int e : Edges.upToDegree(3, 3)) {
            Due.is("the hand is 0", s.hand(e), 0);
        }
        Due.is("each was proved", s.proved(), 3);
    }

    private static void notZeroIfNotInTheSpace() {
        SpaceBasis s = new SpaceBasis();
        Due.joined(s, 3 * X, 1);
        s.basis(12);
        for (int d = 0; d <= 12; d++) {
            s.coefficient(d * X, 1);
            Due.is("x^" + d, s.remainder() ? 1 : 0, d < 3 ? 0 : 1);
            Due.is("x^" + d + " is left", s.hand(d * X), d < 3 ? 1 : 0);
            s.coefficient(d * X, 0);
        }
    }

    /** The space has just 0: each polynomial is its own remainder. */
    private static void remainderWithoutGenerators() {
        for (int n = 1; n <= 4; n++) {
            List<Integer> all = Edges.upToDegree(n, Edges.HIGHEST[n]);
            SpaceBasis s = Edges.of(101, n, 0);
            for (int i = 0; i < all.size(); i++) {
                s.coefficient(all.get(i), i % 100 + 1);
            }
            s.basis(Edges.HIGHEST[n]);
            Due.fails("n " + n + ": its own", s.remainder());
            for (int i = 0; i < all.size(); i++) {
                Due.is("n " + n + ": its own", s.hand(all.get(i)), i % 100 + 1);
            }
            Due.is("n " + n + ": not proved", s.proved(), 0);
        }
    }

    /** The space has everything: each remainder is 0. */
    private static void remainderOfEverything() {
        for (int n = 1; n <= 4; n++) {
            SpaceBasis s = Edges.of(101, n, 0);
            Due.joined(s, 0, 55);
            Edges.fillHand(s, 101, n);
            s.basis(Edges.HIGHEST[n]);
            Due.holds("n " + n + ": all goes", s.remainder());
            Edges.emptyHand("n " + n + ": all goes", s, n);
            Due.is("n " + n + ": proved", s.proved(), 1);
        }
    }

    /** x is 2, y is 3, z is 4, w is 5: each monomial gives a number, and the sum is left. */
    private static void remainderOfAFullHand() {
        for (int n = 1; n <= 4; n++) {
            for (int p : new int[] {2, 7, 32003}) {
                SpaceBasis s = Edges.of(p, n, 1);
                for (int v = 0; v < n; v++) {
                    Due.joined(s, Edges.UNIT[v], 1, 0, -(v + 2));
                }
                Edges.fillHand(s, p, n);
                long sum = 0;
                for (int e : Edges.upToDegree(n, Edges.HIGHEST[n])) {
                    long product = s.hand(e);
                    for (int v = 0; v < n; v++) {
                        for (int i = 0; i < Edges.exponent(e, v); i++) {
                            product = product * (v + 2) % p;
                        }
                    }
                    sum = (sum + product) % p;
                }
                s.basis(Edges.HIGHEST[n]);
                Due.is("n " + n + ", p " + p, s.remainder() ? 1 : 0, sum == 0 ? 1 : 0);
                Due.is("n " + n + ", p " + p + ": the number", s.hand(0), sum);
                for (int e : Edges.upToDegree(n, Edges.HIGHEST[n])) {
                    if (e != 0) {
                        Due.is("n " + n + ", p " + p + ": the rest", s.hand(e), 0);
                    }
                }
            }
        }
    }

    /** What has no leading monomial is its own remainder. */
    private static void remainderTwice() {
        Consumer<SpaceBasis> past = s -> {
            generators(s);
            s.basis(5);
            Due.put(s, 4 * Y + Z, 3, 2 * X + 2 * Z, 5, X, 1, 0, 12);
            Due.fails("not 0", s.remainder());
        };
        Twins.alike("the remainder again", past, s -> Due.fails("not 0 either", s.remainder()));
    }

    /** "what differs from it by one of the space, and has none of the space's leading monomials". */
    private static void remainderDiffersByOneOfTheSpace() {
        SpaceBasis s = new SpaceBasis();
        generators(s);
        s.basis(5);
        int[] terms = {4 * Y + Z, 3, 2 * X + 2 * Z, 5, X, 1, 0, 12};
        Due.put(s, terms);
        Due.fails("not 0", s.remainder());
        for (int k = 0; k < s.ideal(1); k++) {
            int lead = s.lead(k);
            for (int e : Edges.upToDegree(3, 5)) {
                if (divides(lead, e)) {
                    Due.is("a leading monomial is left", s.hand(e), 0);
                }
            }
        }
        SpaceBasis t = new SpaceBasis();
        generators(t);
        t.basis(5);
        for (int e : Edges.upToDegree(3, 5)) {
            t.coefficient(e, -s.hand(e));
        }
        for (int i = 0; i < terms.length; i += 2) {
            t.coefficient(terms[i], t.hand(terms[i]) + terms[i + 1]);
        }
        Due.holds("the difference is in the space", t.remainder());
        Due.is("and that is proved", t.proved(), 1);
    }

    private static boolean divides(int a, int b) {
        for (int v = 0; v < 4; v++) {
            if (Edges.exponent(a, v) > Edges.exponent(b, v)) {
                return false;
            }
        }
        return true;
    }

    /** x^2 y - 1 and x y^2 - x modulo 5: y^2 - 1 is in the space up to 4, not up to 3. */
    private static void remainderNeedsTheDegree() {
        for (int d = 2; d <= 12; d++) {
            SpaceBasis s = Edges.of(5, 2, 0);
            Due.joined(s, 2 * X + Y, 1, 0, -1);
            Due.joined(s, X + 2 * Y, 1, X, -1);
            s.basis(d);
            Due.put(s, 2 * Y, 1, 0, -1);
            Due.is("y^2 - 1 up to " + d, s.remainder() ? 1 : 0, d < 4 ? 0 : 1);
            Due.is("y^2 - 1 up to " + d + ": proved", s.proved(), d < 4 ? 0 : 1);
        }
    }

    /** Only the hand and the count of proofs change. */
    private static void remainderLeavesTheRest() {
        Consumer<SpaceBasis> past = s -> {
            generators(s);
            s.basis(4);
        };
        Twins.alike("one that is not 0, and taken away", past, s -> {
            s.coefficient(Y, 1);
            Due.fails("y", s.remainder());
            s.coefficient(Y, 0);
        });
        Twins.becomes("one that is 0", past, s -> {
            Due.put(s, 2 * Y, 1, Z, 5);
            Due.holds("a generator", s.remainder());
        }, s -> Due.holds("0", s.remainder()));
    }

    private static void provedFromZero() {
        SpaceBasis s = new SpaceBasis();
        Due.is("new", s.proved(), 0);
        generators(s);
        Due.is("with generators", s.proved(), 0);
        s.basis(7);
        Due.is("with a basis", s.proved(), 0);
    }

    /** "How many remainders that were 0": others do not count. */
    private static void provedNotIfNotZero() {
        SpaceBasis s = new SpaceBasis();
        s.basis(12);
        s.coefficient(0, 1);
        for (int i = 0; i < 100; i++) {
            Due.fails("1 without generators", s.remainder());
        }
        Due.is("nothing is proved", s.proved(), 0);
    }

    private static void provedNotIfRefused() {
        SpaceBasis s = new SpaceBasis();
        Due.refusesState("without a basis", s::remainder);
        s.basis(0);
        s.coefficient(X, 1);
        Due.refusesState("too high", s::remainder);
        Due.is("refused ones do not count", s.proved(), 0);
    }

    /** 0 is a sum of nothing: that is reckoned out as well as any. */
    private static void provedOfZero() {
        SpaceBasis s = new SpaceBasis();
        s.basis(0);
        Due.holds("0 without generators", s.remainder());
        Due.is("proved", s.proved(), 1);
        Due.joined(s, X, 1);
        s.basis(0);
        Due.holds("0 with a generator above", s.remainder());
        Due.is("proved", s.proved(), 2);
        s.basis(12);
        Due.holds("0 with a generator", s.remainder());
        Due.is("proved", s.proved(), 3);
    }

    /** The same polynomial counts each time. */
    private static void provedEachTime() {
        SpaceBasis s = new SpaceBasis();
        Due.joined(s, X, 1, Y, 3);
        s.basis(2);
        for (int i = 1; i <= 120; i++) {
            Due.put(s, X, 2, Y, 6);
            Due.holds("again", s.remainder());
            Due.is("again", s.proved(), i);
        }
    }

    /** "(since the beginning)": no call takes the count back. */
    private static void provedSinceTheBeginning() {
        SpaceBasis s = new SpaceBasis();
        int want = 0;
        for (int round = 0; round < 12; round++) {
            s.field(round % 2 == 0 ? 32003 : 2, 1 + round % 4, round % 2);
            Due.is("after field", s.proved(), want);
            Due.joined(s, X, 1, 0, 1);
            Due.is("after join", s.proved(), want);
            s.basis(3);
            Due.is("after basis", s.proved(), want);
            Due.put(s, 3 * X, 1, 2 * X, 1);
            Due.holds("x^3 + x^2", s.remainder());
            want++;
            Due.is("after remainder", s.proved(), want);
            s.clear();
            Due.is("after clear", s.proved(), want);
            Due.refusesArgument("field", () -> s.field(4, 1, 0));
            Due.refusesArgument("coefficient", () -> s.coefficient(-1, 0));
            Due.refusesArgument("join", s::join);
            Due.refusesArgument("basis", () -> s.basis(-1));
            Due.refusesState("remainder", s::remainder);
            Due.is("after refused calls", s.proved(), want);
        }
    }

    /** The longest proofs: every monomial is in the space, each one is asked about. */
    private static void provedOfEachRow() {
        for (int n = 1; n <= 4; n++) {
            for (int order = 0; order <= 1; order++) {
                SpaceBasis s = Edges.of(32003, n, order);
                for (int v = 0; v < n; v++) {
                    Due.joined(s, Edges.UNIT[v], 31000 + v, Edges.UNIT[(v + 1) % n], v + 5, 0, v + 1);
                }
                Due.joined(s, Edges.UNIT[0], 1, Edges.UNIT[n - 1], 32002, 0, 17);
                s.basis(Edges.HIGHEST[n]);
                int want = 0;
                for (int e : Edges.upToDegree(n, Edges.HIGHEST[n])) {
                    s.coefficient(e, 12345);
                    Due.holds("n " + n + ": " + e, s.remainder());
                    want++;
                    Due.is("n " + n + ": proved", s.proved(), want);
                }
            }
        }
    }

    /** A proof may have to go up to the basis' degree and come down again. */
    private static void provedOfFalls() {
        SpaceBasis s = Edges.of(101, 1, 0);
        Due.joined(s, 30 * X, 1);
        Due.joined(s, 29 * X, 1, X, 1);
        s.basis(29);
        s.coefficient(X, 7);
        Due.fails("7 x up to 29", s.remainder());
        Due.is("7 x up to 29", s.proved(), 0);
        s.basis(30);
        Due.holds("7 x up to 30", s.remainder());
        Due.is("7 x up to 30", s.proved(), 1);
    }

    private static void provedChangesNothing() {
        Consumer<SpaceBasis> past = s -> {
            generators(s);
            s.basis(4);
            s.remainder();
            s.coefficient(X, 3);
        };
        Twins.alike("proved()", past, s -> Due.is("proved()", s.proved(), 1));
    }
}
