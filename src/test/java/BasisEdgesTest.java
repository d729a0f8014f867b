import java.util.ArrayList;
import java.util.List;
import java.util.function.Consumer;

/** The boundary cases of promises 7 "basis", 8 "lead" and 9 "member", a test for each sentence. */
public final class BasisEdgesTest {
    private static final int[] FAR_OUT = {
        Edges.LEAST, Edges.LEAST + 1, -65536, -256, -31, -2, -1, 31, 126, 127, 255, 256, 65536, 1 << 24,
        Edges.GREATEST - 1, Edges.GREATEST
    };

    public static void main(String[] args) {
        degreesFromZeroToHighest();
        refusedBasisChangesNothing();
        basisUpToZero();
        basisOfNothing();
        basisOfEverything();
        basisOfEightMonomials();
        basisOfMoreThanEight();
        basisOfTheHighestOnly();
        basisStaysThroughAllElse();
        basisGoesWithTheGenerators();
        basisUpAndDownAgain();
        basisLeavesTheRest();
        leadOfNoneSuch();
        leadsLeastFirst();
        memberOfNoneSuch();
        memberAtNoMonomial();
        memberAboveItsLead();
        leadAndMemberChangeNothing();
        Due.end("BasisEdgesTest");
    }

    private static boolean takes(SpaceBasis s, int d) {
        try {
            s.basis(d);
            return true;
        } catch (IllegalArgumentException e) {
            return false;
        }
    }

    /** "IllegalArgumentException: d is not 0 .. HIGHEST." */
    private static void degreesFromZeroToHighest() {
        for (int n = 1; n <= 4; n++) {
            SpaceBasis s = Edges.of(7, n, 0);
            for (int d = -40; d <= 40; d++) {
                boolean due = d >= 0 && d <= Edges.HIGHEST[n];
                Due.is("n " + n + ": basis(" + d + ")", takes(s, d) ? 1 : 0, due ? 1 : 0);
            }
            for (int d : FAR_OUT) {
                Due.fails("n " + n + ": basis(" + d + ")", takes(s, d));
            }
            Due.is("n " + n + ": the last that was taken", s.ideal(2), Edges.HIGHEST[n]);
        }
    }

    private static void past(SpaceBasis s) {
        s.field(13, 3, 1);
        Due.joined(s, Due.m(1, 0, 1, 0), 2, Due.m(0, 2, 0, 0), 4, 0, 2);
        Due.joined(s, Due.m(0, 2, 0, 0), 1, Due.m(0, 0, 1, 0), 5);
        Due.put(s, Due.m(0, 2, 1, 0), 3, 0, 12);
    }

    private static void pastWithBasis(SpaceBasis s) {
        past(s);
        s.basis(4);
    }

    private static void refusedBasisChangesNothing() {
        for (int d : new int[] {-1, 8, 12, 30, Edges.LEAST, Edges.GREATEST}) {
            Consumer<SpaceBasis> call = s -> s.basis(d);
            Twins.refusesArgument("basis(" + d + ")", BasisEdgesTest::pastWithBasis, call);
            Twins.refusesArgument("basis(" + d + ") without one", BasisEdgesTest::past, call);
        }
        Twins.refusesArgument("basis(13) of a new object", s -> { }, s -> s.basis(13));
    }

    /** The least degree: just a number can be in the space. */
    private static void basisUpToZero() {
        for (int n = 1; n <= 4; n++) {
            SpaceBasis s = Edges.of(7, n, 0);
            Due.is("nothing up to 0", s.basis(0), 0);
            Due.joined(s, Edges.UNIT[n - 1], 1, 0, 3);
            Due.is("a line up to 0", s.basis(0), 0);
            Due.is("a line up to 0: the rest", s.standard(0), 1);
            Due.joined(s, 0, 3);
            Due.is("a number up to 0", s.basis(0), 1);
            Due.is("a number up to 0: lead", s.lead(0), 0);
            Due.is("a number up to 0: 1", s.member(0, 0), 1);
            Due.is("a number up to 0: the rest", s.standard(0), 0);
        }
    }

    private static void basisOfNothing() {
        for (int n = 1; n <= 4; n++) {
            for (int d = 0; d <= Edges.HIGHEST[n]; d++) {
                SpaceBasis s = Edges.of(7, n, 1);
                Due.is("nothing up to " + d, s.basis(d), 0);
                Due.is("nothing: lead(0)", s.lead(0), SpaceBasis.NONE);
                Due.is("nothing: member(0, 0)", s.member(0, 0), 0);
                Due.is("nothing: ideal(1)", s.ideal(1), 0);
            }
        }
    }

    /** The space is full: every monomial leads, and 1 divides them all. */
    private static void basisOfEverything() {
        for (int n = 1; n <= 4; n++) {
            for (int d = 0; d <= Edges.HIGHEST[n]; d++) {
                SpaceBasis s = Edges.of(7, n, 0);
                Due.joined(s, 0, 4);
                Due.is("everything up to " + d, s.basis(d), 1);
                Due.is("everything: lead(0)", s.lead(0), 0);
                Due.is("everything: lead(1)", s.lead(1), SpaceBasis.NONE);
                Due.is("everything: member", s.member(0, 0), 1);
                Due.is("everything: member", s.member(0, Edges.UNIT[0]), 0);
                for (int e = 0; e <= d; e++) {
                    Due.is("everything: standard(" + e + ")", s.standard(e), 0);
                }
            }
        }
    }

    /** The most generators, none of which divides another. */
    private static void basisOfEightMonomials() {
        for (int order = 0; order <= 1; order++) {
            SpaceBasis s = Edges.of(3, 2, order);
            for (int g = 0; g < 8; g++) {
                Due.joined(s, Due.m(g, 7 - g), 2);
            }
            Due.is("eight up to 6", s.basis(6), 0);
            Due.is("eight up to 7", s.basis(7), 8);
            for (int g = 0; g < 8; g++) {
                Due.is("eight: lead " + g, s.lead(g), Due.m(g, 7 - g));
                Due.is("eight: member " + g, s.member(g, Due.m(g, 7 - g)), 1);
            }
            Due.is("eight: no lead after them", s.lead(8), SpaceBasis.NONE);
            Due.is("eight up to 12", s.basis(12), 8);
            Due.is("eight: nothing is left", s.standard(7), 0);
        }
    }

    private static final int[][] MORE_THAN_EIGHT = {
        {16908289, 4, 131072, 5, 256, 2},
        {65537, 1, 33554688, 1, 131072, 5},
        {512, 5, 50331905, 5, 16777728, 2},
        {512, 2, 65793, 5, 16777216, 1}
    };

    /** The basis may have more polynomials than there are generators: all as the model has them. */
    private static void basisOfMoreThanEight() {
        PlainModel model = new PlainModel();
        model.field(32003, 4, 1);
        for (int[] generator : MORE_THAN_EIGHT) {
            for (int i = 0; i < generator.length; i += 2) {
                model.coefficient(generator[i], generator[i + 1]);
            }
            model.join();
        }
        Due.is("more than eight, in the model", model.basis(5), 23);
        List<Integer> all = Edges.upToDegree(4, 5);
        for (int k = -1; k <= 23; k++) {
            SpaceBasis s = Edges.of(32003, 4, 1);
            for (int[] generator : MORE_THAN_EIGHT) {
                Due.joined(s, generator);
            }
            Due.is("more than eight", s.basis(5), 23);
            Due.is("more than eight: lead " + k, s.lead(k), model.lead(k));
            for (int e : all) {
                Due.is("more than eight: member " + k + ", " + e, s.member(k, e), model.member(k, e));
            }
        }
    }

    /** Generators of the highest degree alone: no product has room. */
    private static void basisOfTheHighestOnly() {
        for (int n = 2; n <= 4; n++) {
            SpaceBasis s = Edges.of(7, n, 0);
            List<Integer> highest = Edges.ofDegree(n, Edges.HIGHEST[n]);
            for (int g = 0; g < 8; g++) {
                Due.joined(s, highest.get(g), 1, 0, 1);
            }
            Due.is("the highest, n " + n, s.basis(Edges.HIGHEST[n]), 8);
            Due.is("the rest, n " + n, s.standard(Edges.HIGHEST[n]), highest.size() - 8);
            Due.is("below, n " + n, s.basis(Edges.HIGHEST[n] - 1), 0);
        }
    }

    /** "(It stays until the generators change.)": all calls that do not change them. */
    private static void basisStaysThroughAllElse() {
        Consumer<SpaceBasis> past = s -> {
            past(s);
            s.basis(4);
            s.remainder();
            Due.refusesState("out of reach", () -> {
                s.coefficient(Due.m(5, 0, 0, 0), 1);
                s.remainder();
            });
        };
        Twins.alike("all else", past, s -> {
            s.coefficient(Due.m(0, 0, 7, 0), 6);
            s.coefficient(Due.m(0, 0, 7, 0), 0);
            Due.refusesArgument("coefficient", () -> s.coefficient(1, 1));
            Due.refusesArgument("field", () -> s.field(1, 3, 1));
            Due.refusesArgument("basis", () -> s.basis(8));
            Due.refusesState("remainder", s::remainder);
            s.hand(0);
            s.lead(0);
            s.member(0, 0);
            s.ideal(0);
            s.standard(2);
            s.proved();
        });
        SpaceBasis s = new SpaceBasis();
        s.basis(3);
        Due.refusesArgument("0 joins", s::join);
        Due.is("it stays when 0 is refused", s.ideal(2), 3);
    }

    private static void basisGoesWithTheGenerators() {
        List<Consumer<SpaceBasis>> changes = new ArrayList<>();
        changes.add(SpaceBasis::join);
        changes.add(SpaceBasis::clear);
        changes.add(s -> s.field(13, 3, 1));
        for (Consumer<SpaceBasis> change : changes) {
            SpaceBasis s = new SpaceBasis();
            pastWithBasis(s);
            Due.is("it is there", s.ideal(2), 4);
            change.accept(s);
            Edges.withoutBasis("the generators have changed", s);
        }
    }

    /** A basis does not depend on those before it. */
    private static void basisUpAndDownAgain() {
        for (int d = 0; d <= 7; d++) {
            int degree = d;
            Twins.becomes("up to " + d, BasisEdgesTest::past, s -> {
                s.basis(7);
                s.basis(0);
                s.basis(degree);
                s.basis(7 - degree);
                s.basis(degree);
                s.basis(degree);
            }, s -> s.basis(degree));
        }
    }

    /** Nothing but the basis changes: a later join takes that away, and all is as it was. */
    private static void basisLeavesTheRest() {
        for (int d : new int[] {0, 3, 7}) {
            Twins.becomes("basis(" + d + ") and join", BasisEdgesTest::past, s -> {
                s.basis(d);
                s.join();
            }, SpaceBasis::join);
        }
        SpaceBasis s = new SpaceBasis();
        past(s);
        s.basis(7);
        Due.is("the hand is left", s.hand(Due.m(0, 2, 1, 0)), 3);
        Due.is("the hand is left", s.hand(0), 12);
        Due.is("nothing is proved by it", s.proved(), 0);
    }

    /** Promise 8: "NONE if there is none such." */
    private static void leadOfNoneSuch() {
        SpaceBasis s = new SpaceBasis();
        Due.is("without a basis", s.lead(0), SpaceBasis.NONE);
        s.basis(12);
        Due.is("of an empty basis", s.lead(0), SpaceBasis.NONE);
        Due.joined(s, Due.m(0, 2), 1);
        Due.is("not found yet", s.lead(0), SpaceBasis.NONE);
        Due.joined(s, Due.m(3, 0), 1);
        s.basis(12);
        Due.is("the first", s.lead(0), Due.m(0, 2));
        Due.is("the last", s.lead(1), Due.m(3, 0));
        Due.is("after the last", s.lead(2), SpaceBasis.NONE);
        Due.is("before the first", s.lead(-1), SpaceBasis.NONE);
        for (int k : FAR_OUT) {
            Due.is("lead(" + k + ")", s.lead(k), SpaceBasis.NONE);
        }
        s.basis(2);
        Due.is("of a smaller basis", s.lead(1), SpaceBasis.NONE);
        s.basis(1);
        Due.is("of an empty one", s.lead(0), SpaceBasis.NONE);
    }

    /** "by leading monomials, the least first": whatever the order in which they joined. */
    private static void leadsLeastFirst() {
        for (int n = 2; n <= 4; n++) {
            for (int order = 0; order <= 1; order++) {
                int kind = order;
                List<Integer> some = new ArrayList<>();
                for (int v = 0; v < n; v++) {
                    some.add(Edges.UNIT[v] * (v % 2 == 0 ? 3 : 2));
                }
                some.add(Edges.UNIT[0] + Edges.UNIT[n - 1]);
                List<Integer> sorted = new ArrayList<>(some);
                sorted.sort((a, b) -> Edges.compare(kind, a, b));
                SpaceBasis s = Edges.of(7, n, order);
                for (int e : some) {
                    Due.joined(s, e, 1);
                }
                Due.is("n " + n + ": leads", s.basis(Edges.HIGHEST[n]), some.size());
                for (int k = 0; k < sorted.size(); k++) {
                    Due.is("n " + n + ", order " + order + ": lead " + k, s.lead(k), sorted.get(k));
                    Due.is("n " + n + ", order " + order + ": member " + k, s.member(k, sorted.get(k)), 1);
                }
            }
        }
    }

    /** Promise 9: "0 if there is none such", of the polynomial. */
    private static void memberOfNoneSuch() {
        SpaceBasis s = new SpaceBasis();
        Due.is("without a basis", s.member(0, 0), 0);
        s.basis(12);
        Due.is("of an empty basis", s.member(0, 0), 0);
        Due.joined(s, Due.m(0, 2), 1, 0, 1);
        Due.is("not found yet", s.member(0, 0), 0);
        Due.joined(s, Due.m(3, 0), 1, 0, 1);
        s.basis(12);
        Due.is("the first", s.member(0, 0), 1);
        Due.is("the last", s.member(1, 0), 1);
        Due.is("after the last", s.member(2, 0), 0);
        Due.is("before the first", s.member(-1, 0), 0);
        for (int k : FAR_OUT) {
            Due.is("member(" + k + ", 0)", s.member(k, 0), 0);
            Due.is("member(" + k + ", " + k + ")", s.member(k, k), 0);
        }
        s.basis(2);
        Due.is("of a smaller basis", s.member(1, 0), 0);
        s.basis(1);
        Due.is("of an empty one", s.member(0, 0), 0);
    }

    /** "0 if there is none such", of the monomial: it is none of the variables, or too high. */
    private static void memberAtNoMonomial() {
        for (int n = 1; n <= 4; n++) {
            SpaceBasis s = Edges.of(7, n, 0);
            Edges.fillHand(s, 7, n);
            s.join();
            s.basis(Edges.HIGHEST[n]);
            for (int v = 0; v < 4; v++) {
                int above = Edges.UNIT[v] * (Edges.HIGHEST[n] + 1);
                Due.is("n " + n + ": too high", s.member(0, above), 0);
                int inside = s.member(0, Edges.UNIT[v]);
                Due.is("n " + n + ": variable " + v, inside != 0 ? 1 : 0, v < n ? 1 : 0);
            }
            for (int e : Edges.ofDegree(n, Edges.HIGHEST[n] + 1)) {
                Due.is("n " + n + ": one too high", s.member(0, e), 0);
            }
            int[] wrong = {
                Edges.LEAST, -1, -256, 255, 255 << 8, 255 << 16, 255 << 24 | 1 << 16, 128 << 24 | 128 << 16,
                Edges.GREATEST
            };
            for (int e : wrong) {
                Due.is("n " + n + ": member(0, " + e + ")", s.member(0, e), 0);
            }
        }
    }

    /** A monomial above the polynomial's leading one, or above the basis' degree, has nothing. */
    private static void memberAboveItsLead() {
        SpaceBasis s = new SpaceBasis();
        Due.joined(s, Due.m(1, 1), 3, Due.m(0, 2), 3, 0, 3);
        s.basis(2);
        Due.is("x y, its lead", s.member(0, Due.m(1, 1)), 1);
        Due.is("y^2, just below", s.member(0, Due.m(0, 2)), 1);
        Due.is("1, the least", s.member(0, 0), 1);
        Due.is("x^2, just above", s.member(0, Due.m(2, 0)), 0);
        Due.is("y^3, above the degree", s.member(0, Due.m(0, 3)), 0);
        Due.is("x^12, the greatest", s.member(0, Due.m(12, 0)), 0);
        Due.is("x, which it has not", s.member(0, Due.m(1, 0)), 0);
    }

    private static void leadAndMemberChangeNothing() {
        for (int k : new int[] {-1, 0, 1, 2, Edges.LEAST, Edges.GREATEST}) {
            Twins.alike("lead(" + k + ")", BasisEdgesTest::pastWithBasis, s -> s.lead(k));
            Twins.alike("member(" + k + ")", BasisEdgesTest::pastWithBasis, s -> s.member(k, 0));
            Twins.alike("member(0, " + k + ")", BasisEdgesTest::pastWithBasis, s -> s.member(0, k));
            Twins.alike("lead(" + k + ") without a basis", BasisEdgesTest::past, s -> s.lead(k));
            Twins.alike("member(" + k + ") without one", BasisEdgesTest::past, s -> s.member(k, 0));
        }
    }
}
