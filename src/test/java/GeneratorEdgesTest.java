import java.util.function.Consumer;

/** The boundary cases of promises 5 "join" and 6 "clear", a test for each sentence. */
public final class GeneratorEdgesTest {
    public static void main(String[] args) {
        joinTellsOneToEight();
        theEighthCounts();
        theNinthIsRefused();
        zeroIsRefused();
        zeroThatBecameZeroIsRefused();
        zeroIsRefusedBesideEight();
        joinEmptiesAFullHand();
        joinKeepsWhatWasInHand();
        joinOfTheLeastAndTheHighest();
        joinOfTheSameEightTimes();
        joinTakesTheBasisAway();
        joinLeavesTheRest();
        clearOfANewObject();
        clearFromEightToNone();
        clearEmptiesAFullHand();
        clearTakesTheBasisAway();
        clearLeavesTheField();
        clearTwice();
        clearLeavesProved();
        Due.end("GeneratorEdgesTest");
    }

    /** "The polynomial in hand .. comes to the generators: how many there are." */
    private static void joinTellsOneToEight() {
        for (int n = 1; n <= 4; n++) {
            Edges.eightGenerators(Edges.of(7, n, 0), n);
        }
    }

    /** "There are at most 8 GENERATORS": the last of them is as good as the first. */
    private static void theEighthCounts() {
        for (int last = 1; last <= 8; last++) {
            SpaceBasis s = new SpaceBasis();
            for (int g = 1; g < last; g++) {
                Due.joined(s, Due.m(g + 1, 0), 1);
            }
            Due.is("generator " + last, Due.joined(s, Due.m(0, 5), 2, 0, 1), last);
            s.basis(12);
            Due.is("leads with " + last, s.lead(last == 1 ? 0 : 1), Due.m(0, 5));
            Due.is("y^5 + 1 / 2 with " + last, s.member(last == 1 ? 0 : 1, 0), 4);
            Due.is("dimension with " + last, s.ideal(3), last == 1 ? 1 : 0);
        }
    }

    private static void eight(SpaceBasis s) {
        s.field(11, 3, 1);
        Edges.eightGenerators(s, 3);
        s.basis(6);
        s.remainder();
        Due.put(s, Due.m(1, 1, 0, 0), 4, Due.m(0, 0, 2, 0), 3);
    }

    /** "IllegalStateException: there are 8." */
    private static void theNinthIsRefused() {
        Twins.refusesState("a ninth", GeneratorEdgesTest::eight, SpaceBasis::join);
        Consumer<SpaceBasis> noBasis = s -> {
            Edges.eightGenerators(s, 2);
            s.coefficient(0, 1);
        };
        Twins.refusesState("a ninth without a basis", noBasis, SpaceBasis::join);
        SpaceBasis s = new SpaceBasis();
        noBasis.accept(s);
        for (int i = 0; i < 3; i++) {
            Due.refusesState("again and again", s::join);
        }
        s.clear();
        Due.is("after clear there is room", Due.joined(s, 0, 1), 1);
    }

    private static Consumer<SpaceBasis> generators(int count) {
        return s -> {
            for (int g = 1; g <= count; g++) {
                Due.joined(s, Due.m(g, 1), 1);
            }
            s.basis(4);
        };
    }

    /** "IllegalArgumentException: it is 0." */
    private static void zeroIsRefused() {
        Twins.refusesArgument("0 joins a new object", s -> { }, SpaceBasis::join);
        for (int count = 0; count <= 7; count++) {
            Twins.refusesArgument("0 joins " + count, generators(count), SpaceBasis::join);
        }
    }

    private static void zeroThatBecameZeroIsRefused() {
        Consumer<SpaceBasis> takenAway = s -> {
            s.coefficient(Due.m(3, 0), 5);
            s.coefficient(Due.m(3, 0), 14);
        };
        Twins.refusesArgument("taken away", takenAway, SpaceBasis::join);
        Consumer<SpaceBasis> multiple = s -> s.coefficient(Due.m(3, 0), -7);
        Twins.refusesArgument("a multiple of p", multiple, SpaceBasis::join);
        Consumer<SpaceBasis> joined = s -> Due.joined(s, Due.m(3, 0), 5);
        Twins.refusesArgument("joined already", joined, SpaceBasis::join);
        Consumer<SpaceBasis> reduced = s -> {
            Due.joined(s, Due.m(3, 0), 5);
            s.basis(3);
            s.coefficient(Due.m(3, 0), 1);
            Due.holds("x^3", s.remainder());
        };
        Twins.refusesArgument("a remainder that is 0", reduced, SpaceBasis::join);
    }

    /** Both are true then: the document names the argument first. */
    private static void zeroIsRefusedBesideEight() {
        Twins.refusesArgument("0 joins 8", generators(8), SpaceBasis::join);
    }

    /** "which is 0 then". */
    private static void joinEmptiesAFullHand() {
        for (int n = 1; n <= 4; n++) {
            SpaceBasis s = Edges.of(7, n, 0);
            Edges.fillHand(s, 7, n);
            Due.is("a full one", s.join(), 1);
            Edges.emptyHand("after join, n " + n, s, n);
            Due.refusesArgument("after join, n " + n, s::join);
        }
    }

    /** What comes to hand later does not change the generator. */
    private static void joinKeepsWhatWasInHand() {
        SpaceBasis s = new SpaceBasis();
        Due.joined(s, Due.m(2, 0), 1, 0, 3);
        Due.put(s, Due.m(2, 0), 5, Due.m(12, 0), 1, 0, 1);
        Due.is("one generator", s.basis(2), 1);
        Due.is("x^2 + 3", s.lead(0), Due.m(2, 0));
        Due.is("x^2 + 3", s.member(0, 0), 3);
    }

    private static void joinOfTheLeastAndTheHighest() {
        for (int n = 1; n <= 4; n++) {
            for (int v = 0; v < n; v++) {
                SpaceBasis s = Edges.of(2, n, 0);
                int highest = Edges.UNIT[v] * Edges.HIGHEST[n];
                Due.is("the highest joins", Due.joined(s, highest, 1), 1);
                Due.is("it leads", s.basis(Edges.HIGHEST[n]), 1);
                Due.is("it leads", s.lead(0), highest);
                Due.is("not below", s.basis(Edges.HIGHEST[n] - 1), 0);
                Due.is("1 joins", Due.joined(s, 0, 1), 2);
                Due.is("1 leads", s.basis(0), 1);
                Due.is("1 leads", s.lead(0), 0);
            }
        }
    }

    private static void joinOfTheSameEightTimes() {
        SpaceBasis s = Edges.of(32003, 4, 1);
        for (int g = 1; g <= 8; g++) {
            Due.is("the same again", Due.joined(s, Due.m(1, 0, 0, 1), g, 0, g), g);
        }
        for (int d = 0; d <= 5; d++) {
            Due.is("one polynomial up to " + d, s.basis(d), d < 2 ? 0 : 1);
        }
        s.coefficient(0, 1);
        Due.refusesState("a ninth", s::join);
    }

    /** Promise 7: "(It stays until the generators change.)" */
    private static void joinTakesTheBasisAway() {
        for (int count = 0; count <= 7; count++) {
            SpaceBasis s = new SpaceBasis();
            generators(count).accept(s);
            Due.is("the basis is there", s.ideal(2), 4);
            Due.joined(s, 0, 1);
            Edges.withoutBasis("after join " + count, s);
            Due.is("a new one is found", s.basis(4), 1);
            Due.is("with 1", s.lead(0), 0);
        }
    }

    private static void joinLeavesTheRest() {
        Consumer<SpaceBasis> past = s -> {
            s.field(5, 3, 1);
            s.basis(2);
            s.remainder();
        };
        // The basis goes either way; else only the generators are others.
        Twins.becomes("join and clear", past, s -> {
            Due.joined(s, Due.m(1, 1, 0, 0), 1);
            s.clear();
        }, s -> s.clear());
    }

    /** "No generators; the polynomial in hand is 0." */
    private static void clearOfANewObject() {
        Twins.alike("clear of a new object", s -> { }, SpaceBasis::clear);
    }

    private static void clearFromEightToNone() {
        for (int n = 1; n <= 4; n++) {
            SpaceBasis s = Edges.of(7, n, 1);
            Edges.eightGenerators(s, n);
            s.clear();
            Due.is("after clear: basis", s.basis(Edges.HIGHEST[n]), 0);
            Due.is("after clear: complete", s.ideal(0), 1);
            Due.is("after clear: dimension", s.ideal(3), n);
            Edges.eightGenerators(s, n);
        }
    }

    private static void clearEmptiesAFullHand() {
        for (int n = 1; n <= 4; n++) {
            SpaceBasis s = Edges.of(7, n, 0);
            Edges.fillHand(s, 7, n);
            s.clear();
            Edges.emptyHand("after clear, n " + n, s, n);
            Due.refusesArgument("after clear: join", s::join);
        }
    }

    private static void clearTakesTheBasisAway() {
        SpaceBasis s = new SpaceBasis();
        eight(s);
        s.clear();
        Edges.withoutBasis("after clear", s);
    }

    private static void clearLeavesTheField() {
        int[] primes = {2, 7, 32003};
        for (int p : primes) {
            for (int n = 1; n <= 4; n++) {
                for (int order = 0; order <= 1; order++) {
                    int[] f = {p, n, order};
                    Consumer<SpaceBasis> past = s -> s.field(f[0], f[1], f[2]);
                    Twins.becomes("clear with p " + p + ", n " + n + ", order " + order, past, s -> {
                        Edges.eightGenerators(s, f[1]);
                        s.clear();
                    }, s -> { });
                }
            }
        }
    }

    private static void clearTwice() {
        Twins.becomes("clear twice", GeneratorEdgesTest::eight, s -> {
            s.clear();
            s.clear();
        }, SpaceBasis::clear);
    }

    private static void clearLeavesProved() {
        SpaceBasis s = new SpaceBasis();
        eight(s);
        Due.is("proved() before clear", s.proved(), 1);
        s.clear();
        Due.is("proved() after clear", s.proved(), 1);
    }
}
