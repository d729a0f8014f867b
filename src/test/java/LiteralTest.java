import java.util.ArrayList;
import java.util.List;

/**
 * The section "Terms" by its bare words, in fields so small that every polynomial can be looked at:
 * the space is a set that grows by sums and products until nothing is new, the basis and the
 * remainders are searched for among all polynomials. Nothing of linear algebra is used, so an error
 * that the class and PlainModel could share would be seen here.
 */
public final class LiteralTest {
    private final int p;
    private final int n;
    private final int order;
    private final int upTo;
    private final List<Integer> monomials;
    private final int[] powers;
    private final boolean[] inSpace;
    private final List<Integer> had = new ArrayList<>();
    private final List<Integer> generators = new ArrayList<>();
    private long seed;

    private LiteralTest(int p, int n, int order, int upTo, long seed) {
        this.p = p;
        this.n = n;
        this.order = order;
        this.upTo = upTo;
        this.seed = seed;
        monomials = Edges.upToDegree(n, upTo);
        powers = new int[monomials.size() + 1];
        powers[0] = 1;
        for (int i = 0; i < monomials.size(); i++) {
            powers[i + 1] = powers[i] * p;
        }
        inSpace = new boolean[powers[monomials.size()]];
    }

    public static void main(String[] args) {
        int[][] small = {
            {2, 1, 8}, {2, 2, 2}, {2, 2, 3}, {2, 3, 1}, {2, 3, 2}, {2, 4, 1},
            {3, 1, 5}, {3, 2, 2}, {3, 3, 1}, {3, 4, 1}, {5, 1, 3}, {5, 2, 1}, {5, 3, 1}, {7, 2, 1}
        };
        for (int[] kind : small) {
            for (int t = 0; t < 12; t++) {
                new LiteralTest(kind[0], kind[1], t % 2, kind[2], 31L * t + kind[0]).check(t / 2);
            }
        }
        Due.end("LiteralTest");
    }

    /** A fixed row of numbers that looks mixed, so that every run is the same each time. */
    private int below(int bound) {
        seed = seed * 6364136223846793005L + 1442695040888963407L;
        return (int) Math.floorMod(seed >>> 33, (long) bound);
    }

    private void check(int count) {
        String name = "modulo " + p + ", " + n + " variables, order " + order + ", up to " + upTo;
        for (int g = 0; g < count; g++) {
            generators.add(someSparse());
        }
        findSpace();
        SpaceBasis s = withBasis();
        name += ", generators " + generators;
        List<Integer> leads = leads();
        List<Integer> least = leastLeads(leads);
        Due.is(name + ": ideal(1)", s.ideal(1), least.size());
        for (int k = 0; k < least.size(); k++) {
            Due.is(name + ": lead(" + k + ")", s.lead(k), least.get(k));
            int member = theMember(name, least.get(k), leads);
            for (int i = 0; i < monomials.size(); i++) {
                Due.is(name + ": member(" + k + ")", s.member(k, monomials.get(i)), digit(member, i));
            }
        }
        checkSizes(name, s, leads, least);
        for (int t = 0; t < 25; t++) {
            checkRemainder(name, t < 5 ? had.get(below(had.size())) : below(inSpace.length), leads);
        }
    }

    private int digit(int polynomial, int i) {
        return polynomial / powers[i] % p;
    }

    /** One to three monomials: those give spaces that are neither nothing nor everything. */
    private int someSparse() {
        int polynomial = 0;
        int terms = 1 + below(3);
        for (int t = 0; t < terms; t++) {
            int i = below(monomials.size());
            polynomial += (1 + below(p - 1) - digit(polynomial, i)) * powers[i];
        }
        return polynomial;
    }

    private int plus(int a, int b) {
        int sum = 0;
        for (int i = 0; i < monomials.size(); i++) {
            sum += (digit(a, i) + digit(b, i)) % p * powers[i];
        }
        return sum;
    }

    private int times(int polynomial, int number) {
        int product = 0;
        for (int i = 0; i < monomials.size(); i++) {
            product += digit(polynomial, i) * number % p * powers[i];
        }
        return product;
    }

    private int timesVariable(int polynomial, int variable) {
        int product = 0;
        for (int i = 0; i < monomials.size(); i++) {
            if (digit(polynomial, i) != 0) {
                int to = monomials.indexOf(monomials.get(i) + Edges.UNIT[variable]);
                product += digit(polynomial, i) * powers[to];
            }
        }
        return product;
    }

    private int degree(int polynomial) {
        int degree = -1;
        for (int i = 0; i < monomials.size(); i++) {
            if (digit(polynomial, i) != 0) {
                degree = Math.max(degree, Edges.degree(monomials.get(i)));
            }
        }
        return degree;
    }

    private void take(int polynomial) {
        if (!inSpace[polynomial]) {
            inSpace[polynomial] = true;
            had.add(polynomial);
        }
    }

    private void findSpace() {
        take(0);
        for (int g : generators) {
            take(g);
        }
        for (int i = 0; i < had.size(); i++) {
            int f = had.get(i);
            for (int number = 0; number < p; number++) {
                take(times(f, number));
            }
            for (int j = 0; j <= i; j++) {
                take(plus(f, had.get(j)));
            }
            for (int v = 0; v < n && degree(f) < upTo; v++) {
                take(timesVariable(f, v));
            }
        }
    }

    private int leadOf(int polynomial) {
        int lead = SpaceBasis.NONE;
        for (int i = 0; i < monomials.size(); i++) {
            int e = monomials.get(i);
            if (digit(polynomial, i) != 0
                    && (lead == SpaceBasis.NONE || Edges.compare(order, e, lead) > 0)) {
                lead = e;
            }
        }
        return lead;
    }

    private List<Integer> leads() {
        List<Integer> leads = new ArrayList<>();
        for (int f : had) {
            if (f != 0 && !leads.contains(leadOf(f))) {
                leads.add(leadOf(f));
            }
        }
        return leads;
    }

    private static boolean divides(int a, int b) {
        for (int v = 0; v < 4; v++) {
            if (Edges.exponent(a, v) > Edges.exponent(b, v)) {
                return false;
            }
        }
        return true;
    }

    /** "those that no other one of them divides", the least first. */
    private List<Integer> leastLeads(List<Integer> leads) {
        List<Integer> least = new ArrayList<>();
        for (int e : leads) {
            boolean divided = false;
            for (int other : leads) {
                divided |= other != e && divides(other, e);
            }
            if (!divided) {
                least.add(e);
            }
        }
        least.sort((a, b) -> Edges.compare(order, a, b));
        return least;
    }

    private boolean hasOneOf(int polynomial, List<Integer> leads, int but) {
        for (int i = 0; i < monomials.size(); i++) {
            int e = monomials.get(i);
            if (digit(polynomial, i) != 0 && e != but && leads.contains(e)) {
                return true;
            }
        }
        return false;
    }

    /** "the one polynomial of the space with it, with coefficient 1, that has no other ..". */
    private int theMember(String name, int lead, List<Integer> leads) {
        int member = 0;
        int found = 0;
        for (int f : had) {
            boolean monic = digit(f, monomials.indexOf(lead)) == 1;
            if (f != 0 && leadOf(f) == lead && monic && !hasOneOf(f, leads, lead)) {
                member = f;
                found++;
            }
        }
        Due.is(name + ": polynomials with the lead " + lead, found, 1);
        return member;
    }

    private void checkSizes(String name, SpaceBasis s, List<Integer> leads, List<Integer> least) {
        for (int d = 0; d <= upTo; d++) {
            int standard = 0;
            for (int e : monomials) {
                standard += Edges.degree(e) == d && !leads.contains(e) ? 1 : 0;
            }
            Due.is(name + ": standard(" + d + ")", s.standard(d), standard);
        }
        boolean complete = isComplete(least);
        Due.is(name + ": ideal(0)", s.ideal(0), complete ? 1 : 0);
        Due.is(name + ": ideal(2)", s.ideal(2), upTo);
        Due.is(name + ": ideal(3)", s.ideal(3), complete ? dimension(leads) : SpaceBasis.NONE);
    }

    /** No generator here is above the degree. */
    private boolean isComplete(List<Integer> least) {
        for (int a : least) {
            for (int b : least) {
                int multiple = 0;
                for (int v = 0; v < 4; v++) {
                    int exponent = Math.max(Edges.exponent(a, v), Edges.exponent(b, v));
                    multiple += exponent * Edges.UNIT[v];
                }
                if (a != b && Edges.degree(multiple) > upTo && multiple != a + b) {
                    return false;
                }
            }
        }
        return true;
    }

    private int dimension(List<Integer> leads) {
        int greatest = SpaceBasis.NONE;
        for (int set = 0; set < 1 << n; set++) {
            boolean none = true;
            for (int e : leads) {
                boolean alone = true;
                for (int v = 0; v < n; v++) {
                    alone &= Edges.exponent(e, v) == 0 || (set >> v & 1) == 1;
                }
                none &= !alone;
            }
            greatest = none ? Math.max(greatest, Integer.bitCount(set)) : greatest;
        }
        return greatest;
    }

    private void put(SpaceBasis s, int polynomial) {
        for (int i = 0; i < monomials.size(); i++) {
            s.coefficient(monomials.get(i), digit(polynomial, i));
        }
    }

    private SpaceBasis withBasis() {
        SpaceBasis s = Edges.of(p, n, order);
        for (int g : generators) {
            put(s, g);
            s.join();
        }
        s.basis(upTo);
        return s;
    }

    /** "what differs from it by one of the space, and has none of the space's leading monomials". */
    private void checkRemainder(String name, int polynomial, List<Integer> leads) {
        int remainder = 0;
        int found = 0;
        for (int f : had) {
            int candidate = plus(polynomial, f);
            if (!hasOneOf(candidate, leads, SpaceBasis.NONE)) {
                remainder = candidate;
                found++;
            }
        }
        String what = name + ": remainder of " + polynomial;
        Due.is(what + ", how many", found, 1);
        SpaceBasis s = withBasis();
        put(s, polynomial);
        Due.is(what + " is 0", s.remainder() ? 1 : 0, remainder == 0 ? 1 : 0);
        Due.is(what + " with a proof", s.proved(), remainder == 0 ? 1 : 0);
        for (int i = 0; i < monomials.size(); i++) {
            Due.is(what, s.hand(monomials.get(i)), digit(remainder, i));
        }
    }
}
