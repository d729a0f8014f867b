import java.util.ArrayList;
import java.util.List;

/** What the tests of the boundary cases share: bounds, monomials, numbers at the edges of an int. */
final class Edges {
    static final int[] HIGHEST = {0, 30, 12, 7, 5};
    static final int[] UNIT = {16777216, 65536, 256, 1};
    static final int LEAST = Integer.MIN_VALUE;
    static final int GREATEST = Integer.MAX_VALUE;

    private Edges() {
    }

    /** All monomials of the first n variables of just this degree, as the class is told them. */
    static List<Integer> ofDegree(int n, int degree) {
        List<Integer> codes = new ArrayList<>();
        addOfDegree(codes, n, 0, degree, 0);
        return codes;
    }

    private static void addOfDegree(List<Integer> codes, int n, int variable, int rest, int code) {
        if (variable == n - 1) {
            codes.add(code + rest * UNIT[variable]);
            return;
        }
        for (int exponent = 0; exponent <= rest; exponent++) {
            addOfDegree(codes, n, variable + 1, rest - exponent, code + exponent * UNIT[variable]);
        }
    }

    static List<Integer> upToDegree(int n, int degree) {
        List<Integer> codes = new ArrayList<>();
        for (int d = 0; d <= degree; d++) {
            codes.addAll(ofDegree(n, d));
        }
        return codes;
    }

    static int exponent(int e, int variable) {
        return (e >>> (24 - 8 * variable)) & 255;
    }

    static int degree(int e) {
        return exponent(e, 0) + exponent(e, 1) + exponent(e, 2) + exponent(e, 3);
    }

    /** The document's order, taken by its words. */
    static int compare(int order, int a, int b) {
        if (degree(a) != degree(b)) {
            return Integer.compare(degree(a), degree(b));
        }
        if (order == 0) {
            for (int v = 3; v >= 0; v--) {
                if (exponent(a, v) != exponent(b, v)) {
                    return exponent(a, v) < exponent(b, v) ? 1 : -1;
                }
            }
        } else {
            for (int v = 0; v < 4; v++) {
                if (exponent(a, v) != exponent(b, v)) {
                    return exponent(a, v) > exponent(b, v) ? 1 : -1;
                }
            }
        }
        return 0;
    }

    static SpaceBasis of(int p, int n, int order) {
        SpaceBasis s = new SpaceBasis();
        s.field(p, n, order);
        return s;
    }

    /** Each monomial of the variables in hand, with coefficients from 1 on, none of them 0. */
    static void fillHand(SpaceBasis s, int p, int n) {
        int c = 0;
        for (int e : upToDegree(n, HIGHEST[n])) {
            c = c % (p - 1) + 1;
            s.coefficient(e, c);
        }
    }

    /** Eight generators with different leading monomials: a variable's powers, and 1 added. */
    static void eightGenerators(SpaceBasis s, int n) {
        int most = HIGHEST[n];
        for (int g = 0; g < 8; g++) {
            int e = UNIT[g % n] * Math.max(1, most - g / n);
            s.coefficient(e, 1);
            s.coefficient(0, 1);
            Due.is("generator", s.join(), g + 1);
        }
    }

    static void emptyHand(String when, SpaceBasis s, int n) {
        for (int e : upToDegree(n, HIGHEST[n])) {
            Due.is(when + ": hand(" + e + ")", s.hand(e), 0);
        }
    }

    static void withoutBasis(String when, SpaceBasis s) {
        for (int what = 0; what <= 3; what++) {
            Due.is(when + ": ideal(" + what + ")", s.ideal(what), SpaceBasis.NONE);
        }
        for (int d = 0; d <= 30; d += 5) {
            Due.is(when + ": standard(" + d + ")", s.standard(d), SpaceBasis.NONE);
        }
        for (int k = 0; k <= 2; k++) {
            Due.is(when + ": lead(" + k + ")", s.lead(k), SpaceBasis.NONE);
            Due.is(when + ": member(" + k + ", 0)", s.member(k, 0), 0);
        }
        Due.refusesState(when + ": remainder()", s::remainder);
    }
}
