import java.util.ArrayList;
import java.util.List;

/** The boundary cases of the sections "The public face" and "Terms", a test for each sentence. */
public final class TermsEdgesTest {
    public static void main(String[] args) {
        theLastOf512Calls();
        none();
        toldBelowP();
        theFirstVariables();
        allMonomialsAtOnce();
        degreeGoesFirst();
        neighboursInTheOrder();
        generatorOfDegreeD();
        productsOfDegreeBelowD();
        productsOfWhatFell();
        noOtherLeadDivides();
        noOtherLeadInside();
        completeStaysTheSame();
        Due.end("TermsEdgesTest");
    }

    /** "An object is used for at most 512 calls after it has been made". */
    private static void theLastOf512Calls() {
        SpaceBasis s = new SpaceBasis();
        s.basis(0);
        for (int i = 0; i < 510; i++) {
            Due.holds("remainder " + i, s.remainder());
        }
        Due.is("the 512th call, proved()", s.proved(), 510);

        SpaceBasis t = new SpaceBasis();
        for (int i = 0; i < 509; i++) {
            t.field(7, 1 + i % 4, i % 2);
        }
        t.coefficient(30 << 24, 1);
        t.join();
        Due.is("the 512th call, basis(30)", t.basis(30), 1);
    }

    /** "The constants: NONE = -1: None." */
    private static void none() {
        Due.is("NONE", SpaceBasis.NONE, -1);
    }

    /** "THE FIELD: whole numbers modulo P, a prime up to 32003; told as 0 .. P - 1." */
    private static void toldBelowP() {
        for (int p : new int[] {2, 3, 7, 31991, 32003}) {
            int[] numbers = {
                Edges.LEAST, Edges.LEAST + 1, -p - 1, -p, -p + 1, -1, 0, 1, p - 1, p, p + 1,
                Edges.GREATEST - 1, Edges.GREATEST
            };
            for (int c : numbers) {
                long told = Math.floorMod((long) c, (long) p);
                String what = "p " + p + ", c " + c;
                SpaceBasis s = Edges.of(p, 1, 0);
                s.coefficient(0, c);
                Due.is(what + ": hand", s.hand(0), told);
                s.coefficient(1 << 24, 1);
                s.join();
                s.basis(1);
                Due.is(what + ": member of x + c", s.member(0, 0), told);
                s.coefficient(1 << 24, 1);
                Due.is(what + ": whether x gives 0", s.remainder() ? 1 : 0, told == 0 ? 1 : 0);
                Due.is(what + ": what x gives", s.hand(0), (p - told) % p);
            }
        }
    }

    /** "VARIABLES: the first N (1 .. 4) of x, y, z, w." */
    private static void theFirstVariables() {
        for (int n = 1; n <= 4; n++) {
            for (int v = 0; v < 4; v++) {
                SpaceBasis s = Edges.of(7, n, 0);
                int e = Edges.UNIT[v];
                String what = "n " + n + ", variable " + v;
                if (v < n) {
                    s.coefficient(e, 3);
                    Due.is(what, s.hand(e), 3);
                    Due.is(what + ": joins", s.join(), 1);
                    Due.is(what + ": basis(1)", s.basis(1), 1);
                    Due.is(what + ": leads", s.lead(0), e);
                    Due.is(what + ": the others are left", s.ideal(3), n - 1);
                } else {
                    Due.refusesArgument(what, () -> s.coefficient(e, 3));
                    Due.is(what + ": hand", s.hand(e), 0);
                }
            }
        }
    }

    /** "HIGHEST .. : 30, 12, 7, 5 with N 1 .. 4": a polynomial may have every monomial up to it. */
    private static void allMonomialsAtOnce() {
        int[] counts = {0, 31, 91, 120, 126};
        for (int n = 1; n <= 4; n++) {
            for (int order = 0; order <= 1; order++) {
                List<Integer> all = Edges.upToDegree(n, Edges.HIGHEST[n]);
                Due.is("monomials with n " + n, all.size(), counts[n]);
                SpaceBasis s = Edges.of(32003, n, order);
                for (int i = 0; i < all.size(); i++) {
                    s.coefficient(all.get(i), i + 1);
                }
                for (int i = 0; i < all.size(); i++) {
                    Due.is("full hand, n " + n, s.hand(all.get(i)), i + 1);
                }
                Due.is("a full one joins", s.join(), 1);
                Due.is("basis of a full one", s.basis(Edges.HIGHEST[n]), 1);
                long greatest = 1 + all.indexOf(s.lead(0));
                for (int i = 0; i < all.size(); i++) {
                    long back = s.member(0, all.get(i)) * greatest % 32003;
                    Due.is("full member, n " + n, back, i + 1);
                }
            }
        }
    }

    /** "THE ORDER of monomials: by degree". */
    private static void degreeGoesFirst() {
        for (int n = 1; n <= 4; n++) {
            for (int order = 0; order <= 1; order++) {
                for (int d = 1; d <= Edges.HIGHEST[n]; d++) {
                    int great = Edges.UNIT[n - 1] * d;
                    int small = Edges.UNIT[0] * (d - 1);
                    leads("degree " + d + ", n " + n, n, order, small, great);
                }
            }
        }
    }

    /** "ORDER 0: .. whose last exponent that differs is less; ORDER 1: whose first .. greater." */
    private static void neighboursInTheOrder() {
        for (int n = 1; n <= 4; n++) {
            for (int order = 0; order <= 1; order++) {
                int kind = order;
                List<Integer> all = new ArrayList<>(Edges.upToDegree(n, Edges.HIGHEST[n]));
                all.sort((a, b) -> Edges.compare(kind, a, b));
                for (int i = 1; i < all.size(); i++) {
                    leads("neighbour " + i + ", n " + n, n, order, all.get(i - 1), all.get(i));
                }
            }
        }
    }

    private static void leads(String what, int n, int order, int small, int great) {
        SpaceBasis s = Edges.of(7, n, order);
        s.coefficient(great, 2);
        s.coefficient(small, 3);
        s.join();
        s.basis(Edges.degree(great));
        Due.is(what + ", order " + order, s.lead(0), great);
        Due.is(what + ", order " + order + ": 3 / 2", s.member(0, small), 5);
    }

    /** "THE SPACE up to a degree D: .. from the generators of degree at most D". */
    private static void generatorOfDegreeD() {
        for (int n = 1; n <= 4; n++) {
            for (int d = 1; d <= Edges.HIGHEST[n]; d++) {
                SpaceBasis s = Edges.of(5, n, 1);
                s.coefficient(Edges.UNIT[n - 1] * d, 1);
                s.coefficient(0, 1);
                s.join();
                Due.is("degree " + d + " up to one less, n " + n, s.basis(d - 1), 0);
                Due.is("degree " + d + " up to it, n " + n, s.basis(d), 1);
                Due.is("its lead, n " + n, s.lead(0), Edges.UNIT[n - 1] * d);
            }
        }
    }

    /** ".. and products of one that was had, of a degree below D, with a variable." */
    private static void productsOfDegreeBelowD() {
        for (int n = 1; n <= 4; n++) {
            for (int d = 1; d < Edges.HIGHEST[n]; d++) {
                SpaceBasis s = Edges.of(5, n, 0);
                Due.joined(s, Edges.UNIT[0] * d, 1);
                int all = Edges.ofDegree(n, d).size();
                s.basis(d);
                Due.is("no product of degree " + d + ", n " + n, s.standard(d), all - 1);
                s.basis(d + 1);
                int more = Edges.ofDegree(n, d + 1).size();
                Due.is("each product of degree " + d + ", n " + n, s.standard(d + 1), more - n);
            }
        }
        // x (x y - 1) and y (x^2 + x) differ by x y + x, which needs 3: with x y - 1 that is x + 1.
        SpaceBasis s = new SpaceBasis();
        Due.joined(s, Due.m(1, 1), 1, 0, -1);
        Due.joined(s, Due.m(2, 0), 1, Due.m(1, 0), 1);
        Due.is("no product is used up to 2", s.basis(2), 2);
        Due.is("x + 1 and y + 1 up to 3", s.basis(3), 2);
        Due.is("x + 1", s.lead(1), Due.m(1, 0));
        Due.is("y + 1", s.lead(0), Due.m(0, 1));
    }

    /** What a sum makes smaller "was had" too, and is multiplied again, as often as it can be. */
    private static void productsOfWhatFell() {
        SpaceBasis s = new SpaceBasis();
        Due.joined(s, Due.m(12, 0), 1);
        Due.joined(s, Due.m(12, 0), 1, Due.m(0, 11), 1);
        Due.joined(s, Due.m(0, 11), 1, Due.m(9, 1), 2, 0, 5);
        Due.is("up to 11 the third is alone", s.basis(11), 1);
        // y^11 falls out of the first two; then 2 x^9 y + 5 out of the third, and x^10 y, x^9 y^2.
        s.basis(12);
        Due.is("three falls: y^11", s.standard(11), 12 - 3);
        Due.is("x^9 y + 6 leads with degree 10", s.lead(0), Due.m(9, 1));
        Due.is("x^9 y + 6", s.member(0, 0), 6);

        SpaceBasis t = Edges.of(101, 1, 0);
        Due.joined(t, 30 << 24, 1);
        Due.joined(t, 29 << 24, 1, 1 << 24, 1);
        // x (x^29 + x) - x^30 is x^2, and its products have x^29: x is left.
        Due.is("up to 29", t.basis(29), 1);
        Due.is("up to 29 x^29 + x leads", t.lead(0), 29 << 24);
        Due.is("up to 30", t.basis(30), 1);
        Due.is("up to 30 x leads", t.lead(0), 1 << 24);
        Due.is("up to 30 just 1 is left", t.standard(0), 1);
    }

    /** "of the leading monomials of the space's polynomials those that no other one .. divides". */
    private static void noOtherLeadDivides() {
        SpaceBasis s = new SpaceBasis();
        Due.joined(s, Due.m(3, 3), 1);
        Due.joined(s, Due.m(3, 4), 1, Due.m(4, 2), 1);
        Due.joined(s, Due.m(2, 5), 1);
        Due.joined(s, Due.m(5, 0), 1);
        s.basis(7);
        // x^4 y^2 comes from x^3 y^4 + x^4 y^2: it divides nothing that is left beside x^3 y^3.
        Due.is("four leads", s.ideal(1), 4);
        Due.is("x^5", s.lead(0), Due.m(5, 0));
        Due.is("x^3 y^3", s.lead(1), Due.m(3, 3));
        Due.is("x^4 y^2", s.lead(2), Due.m(4, 2));
        Due.is("x^2 y^5", s.lead(3), Due.m(2, 5));
        Due.is("x^6, x^5 y, x^4 y^2, x^3 y^3 lead", s.standard(6), 7 - 4);
    }

    /** "that has no other monomial that is a leading one of the space". */
    private static void noOtherLeadInside() {
        SpaceBasis s = Edges.of(11, 2, 0);
        Due.joined(s, Due.m(4, 0), 3, Due.m(1, 3), 5, Due.m(0, 4), 1, Due.m(0, 1), 4, 0, 2);
        Due.joined(s, Due.m(0, 2), 1, Due.m(0, 1), 1);
        s.basis(4);
        // y^2 is -y: y^3 is y, y^4 is -y; x^4 + (5 x y - y + 4 y + 2) / 3.
        Due.is("two leads", s.ideal(1), 2);
        Due.is("x^4", s.lead(1), Due.m(4, 0));
        Due.is("its coefficient is 1", s.member(1, Due.m(4, 0)), 1);
        Due.is("x y^3, a multiple of a lead", s.member(1, Due.m(1, 3)), 0);
        Due.is("y^4, a multiple of a lead", s.member(1, Due.m(0, 4)), 0);
        Due.is("y^2, a lead", s.member(1, Due.m(0, 2)), 0);
        Due.is("x y", s.member(1, Due.m(1, 1)), 5 * 4 % 11);
        Due.is("y", s.member(1, Due.m(0, 1)), 3 * 4 % 11);
        Due.is("1", s.member(1, 0), 2 * 4 % 11);
    }

    /** "(Then a polynomial is in the ideal just if its REMAINDER is 0.)": no degree gives more. */
    private static void completeStaysTheSame() {
        // With the sphere and the saddle y^3 leads too, and meets xy in x y^3; with the last two the
        // third lead is x z^2 or y^2 w, and meets the first in x y z^2 or x y^2 w: up to 4 for each.
        int[] curve = {Due.m(2, 1), 1, 0, -1};
        int[] curves = {Due.m(1, 2), 1, Due.m(1, 0), -1};
        int[] sphere = {Due.m(2, 0, 0, 0), 1, Due.m(0, 2, 0, 0), 1, Due.m(0, 0, 2, 0), 1, 0, -1};
        int[] saddle = {Due.m(1, 1, 0, 0), 1, Due.m(0, 0, 1, 0), -1};
        int[] cone = {Due.m(1, 0, 0, 1), 1, Due.m(0, 1, 1, 0), -1};
        int[] cubic = {Due.m(0, 2, 0, 0), 1, Due.m(1, 0, 1, 0), -1};
        for (int order = 0; order <= 1; order++) {
            completeStays("x^2 y - 1, x y^2 - x", 2, order, 4, curve, curves);
            completeStays("x^12 - 1", 2, order, 12, new int[] {Due.m(12, 0), 1, 0, -1});
            completeStays("a sphere, a saddle", 3, order, 4, sphere, saddle);
            completeStays("xw - yz, y^2 - xz", 4, order, 4, cone, cubic);
            completeStays("xw - yz, 1, w^5", 4, order, 5, cone, new int[] {0, 1}, new int[] {5, 1});
        }
    }

    /** From the first degree on with which the basis is complete, all polynomials stay. */
    private static void completeStays(String what, int n, int order, int first, int[]... generators) {
        List<Long> earlier = null;
        for (int d = 0; d <= Edges.HIGHEST[n]; d++) {
            SpaceBasis s = Edges.of(101, n, order);
            for (int[] generator : generators) {
                Due.joined(s, generator);
            }
            s.basis(d);
            String where = what + ", order " + order + ", up to " + d;
            Due.is(where + ": complete", s.ideal(0), d < first ? 0 : 1);
            List<Long> now = polynomials(s, n);
            if (d > first) {
                Due.same(where, now, earlier);
            }
            earlier = now;
        }
    }

    private static List<Long> polynomials(SpaceBasis s, int n) {
        List<Long> all = new ArrayList<>();
        for (int k = 0; k < s.ideal(1); k++) {
            all.add((long) s.lead(k));
            for (int e : Edges.upToDegree(n, Math.min(5, Edges.HIGHEST[n]))) {
                if (Edges.degree(e) <= Edges.degree(s.lead(k))) {
                    all.add((long) s.member(k, e));
                }
            }
        }
        return all;
    }
}
