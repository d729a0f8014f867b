/** Promises 7 to 13: basis, lead, member, ideal, standard, remainder, proved. */
public final class BasisTest {
    public static void main(String[] args) {
        basisRefuses();
        basisStays();
        basisUpToDegrees();
        spaceIsNotTheIdeal();
        fallsOfDegreeAreUsed();
        leadsAndMembers();
        membersAreReduced();
        greatPrime();
        primeTwo();
        oneVariable();
        completeOrNot();
        dimensions();
        standards();
        remainders();
        remainderRefuses();
        proofs();
        Due.end("BasisTest");
    }

    private static void basisRefuses() {
        int[] highest = {0, 30, 12, 7, 5};
        SpaceBasis s = new SpaceBasis();
        for (int n = 1; n <= 4; n++) {
            s.field(7, n, 0);
            Due.joined(s, 1 << 24, 1);
            int above = highest[n] + 1;
            Due.refusesArgument("basis(-1)", () -> s.basis(-1));
            Due.refusesArgument("basis above", () -> s.basis(above));
            Due.is("still no basis", s.ideal(2), SpaceBasis.NONE);
            Due.is("basis(highest)", s.basis(highest[n]), 1);
            Due.refusesArgument("basis(least)", () -> s.basis(Integer.MIN_VALUE));
            Due.refusesArgument("basis(greatest)", () -> s.basis(Integer.MAX_VALUE));
            Due.is("the basis stays when another is refused", s.ideal(2), highest[n]);
            Due.is("basis(0)", s.basis(0), 0);
            Due.is("another basis takes its place", s.ideal(2), 0);
        }
    }

    private static void basisStays() {
        SpaceBasis s = new SpaceBasis();
        Due.joined(s, Due.m(2, 0), 1, 0, -1);
        s.basis(5);
        s.coefficient(Due.m(12, 0), 3);
        Due.is("coefficient leaves it", s.ideal(2), 5);
        Due.refusesState("of too high a degree", s::remainder);
        Due.is("a refused remainder leaves it", s.ideal(2), 5);
        s.coefficient(Due.m(12, 0), 0);
        s.coefficient(Due.m(3, 0), 1);
        Due.fails("x^3", s.remainder());
        Due.is("remainder leaves it", s.ideal(2), 5);
        Due.is("the same again", s.basis(5), 1);
        Due.is("its lead", s.lead(0), Due.m(2, 0));
        Due.is("the remainder stays in hand", s.hand(Due.m(1, 0)), 1);
        s.join();
        Due.is("join takes it away", s.ideal(2), SpaceBasis.NONE);
        Due.is("1 is in the ideal now", s.basis(5), 1);
        Due.is("1 leads", s.lead(0), 0);
    }

    /** x^2 y - 1 and x y^2 - x modulo 5: the basis is x^2 - y, y^2 - 1. */
    private static SpaceBasis twoCubics() {
        SpaceBasis s = new SpaceBasis();
        s.field(5, 2, 0);
        Due.joined(s, Due.m(2, 1), 1, 0, -1);
        Due.joined(s, Due.m(1, 2), 1, Due.m(1, 0), -1);
        return s;
    }

    private static void basisUpToDegrees() {
        SpaceBasis s = twoCubics();
        int[] counts = {0, 0, 0, 2, 2, 2, 2};
        for (int d = 0; d < counts.length; d++) {
            Due.is("two cubics up to " + d, s.basis(d), counts[d]);
            Due.is("two cubics, degree", s.ideal(2), d);
            Due.is("two cubics, count", s.ideal(1), counts[d]);
        }
        s.basis(3);
        Due.is("up to 3", s.lead(0), Due.m(1, 2));
        Due.is("up to 3", s.lead(1), Due.m(2, 1));
        s.basis(4);
        Due.is("up to 4", s.lead(0), Due.m(0, 2));
        Due.is("up to 4", s.lead(1), Due.m(2, 0));
        Due.is("up to 4, y^2 - 1", s.member(0, 0), 4);
        Due.is("up to 4, x^2 - y", s.member(1, Due.m(0, 1)), 4);
    }

    private static void spaceIsNotTheIdeal() {
        SpaceBasis s = new SpaceBasis();
        Due.joined(s, Due.m(3, 0), 1);
        Due.joined(s, Due.m(1, 0), 1, 0, 1);
        Due.is("x^3 is not used up to 2", s.basis(2), 1);
        Due.is("x + 1 leads", s.lead(0), Due.m(1, 0));
        Due.is("it is not complete", s.ideal(0), 0);
        Due.is("1 is in the space up to 3", s.basis(3), 1);
        Due.is("1 leads up to 3", s.lead(0), 0);
        Due.is("it is complete", s.ideal(0), 1);
        Due.is("and has no dimension", s.ideal(3), SpaceBasis.NONE);
    }

    /** x y - 1 and x^2 y: the product x (x y - 1) gives x, and that gives 1, all up to 3. */
    private static void fallsOfDegreeAreUsed() {
        SpaceBasis s = new SpaceBasis();
        Due.joined(s, Due.m(2, 1), 1);
        Due.joined(s, Due.m(1, 1), 1, 0, -1);
        Due.is("up to 2", s.basis(2), 1);
        Due.is("up to 2", s.lead(0), Due.m(1, 1));
        Due.is("up to 3", s.basis(3), 1);
        Due.is("up to 3", s.lead(0), 0);
        Due.is("all is led", s.standard(3), 0);
    }

    private static void leadsAndMembers() {
        SpaceBasis s = new SpaceBasis();
        s.field(11, 3, 0);
        Due.joined(s, Due.m(0, 0, 2, 0), 3, Due.m(1, 0, 0, 0), 6);
        Due.joined(s, Due.m(0, 2, 0, 0), 5, 0, 10);
        Due.joined(s, Due.m(3, 0, 0, 0), 7);
        Due.is("three of them", s.basis(7), 3);
        Due.is("least first", s.lead(0), Due.m(0, 0, 2, 0));
        Due.is("then", s.lead(1), Due.m(0, 2, 0, 0));
        Due.is("then", s.lead(2), Due.m(3, 0, 0, 0));
        Due.is("leading coefficient 1", s.member(0, Due.m(0, 0, 2, 0)), 1);
        Due.is("z^2 + 2 x", s.member(0, Due.m(1, 0, 0, 0)), 2);
        Due.is("y^2 + 2", s.member(1, 0), 2);
        Due.is("x^3", s.member(2, Due.m(3, 0, 0, 0)), 1);
        Due.is("x^3 has no other", s.member(2, 0), 0);
        int[] none = {Integer.MIN_VALUE, -2, -1, 3, 4, 126, Integer.MAX_VALUE};
        for (int k : none) {
            Due.is("lead(" + k + ")", s.lead(k), SpaceBasis.NONE);
            Due.is("member(" + k + ")", s.member(k, 0), 0);
        }
        int[] wrong = {Integer.MIN_VALUE, -1, 1, Due.m(8, 0), Due.m(0, 3, 5, 0), Integer.MAX_VALUE};
        for (int e : wrong) {
            Due.is("member(0, " + e + ")", s.member(0, e), 0);
        }
        Due.is("a monomial above the lead", s.member(0, Due.m(7, 0)), 0);
    }

    /** x^2 + y^2 and x y with y^2 - x: no other leading monomial is left in any. */
    private static void membersAreReduced() {
        SpaceBasis s = new SpaceBasis();
        s.field(7, 2, 1);
        Due.joined(s, Due.m(2, 0), 1, Due.m(0, 2), 1, Due.m(1, 1), 3);
        Due.joined(s, Due.m(1, 1), 1, Due.m(0, 2), 2);
        Due.joined(s, Due.m(0, 2), 1, Due.m(1, 0), -1);
        s.basis(2);
        Due.is("three leads", s.ideal(1), 3);
        Due.is("x^2 without y^2", s.member(2, Due.m(0, 2)), 0);
        Due.is("x^2 without x y", s.member(2, Due.m(1, 1)), 0);
        // x^2 + y^2 + 3 x y = x^2 + y^2 - 6 y^2 = x^2 - 5 y^2 = x^2 - 5 x
        Due.is("x^2 - 5 x", s.member(2, Due.m(1, 0)), 2);
        Due.is("x y + 2 x", s.member(1, Due.m(1, 0)), 2);
        Due.is("y^2 - x", s.member(0, Due.m(1, 0)), 6);
    }

    private static void greatPrime() {
        SpaceBasis s = new SpaceBasis();
        s.field(32003, 4, 0);
        Due.joined(s, Due.m(1, 0, 0, 0), 32002, Due.m(0, 1, 0, 0), 32002, Due.m(0, 0, 1, 0), 32001, 0, 32002);
        Due.joined(s, Due.m(1, 0, 0, 0), 32002, Due.m(0, 1, 0, 0), 2, Due.m(0, 0, 1, 0), 16002, 0, 32001);
        Due.is("two lines", s.basis(5), 2);
        // -x - y - 2 z - 1 and -x + 2 y + 16002 z - 2: 3 y + 16004 z - 1 = 0
        long third = 10668;
        Due.is("a third", 3 * third % 32003, 1);
        Due.is("y", s.lead(0), Due.m(0, 1, 0, 0));
        Due.is("y, z", s.member(0, Due.m(0, 0, 1, 0)), 16004 * third % 32003);
        Due.is("y, 1", s.member(0, 0), 32003 - third);
        Due.is("x, z", s.member(1, Due.m(0, 0, 1, 0)), Math.floorMod(2 - 16004 * third, 32003L));
        Due.is("x, 1", s.member(1, 0), Math.floorMod(1 + third, 32003L));
        Due.is("dimension", s.ideal(3), 2);
    }

    private static void primeTwo() {
        SpaceBasis s = new SpaceBasis();
        s.field(2, 2, 0);
        Due.joined(s, Due.m(2, 0), 1, Due.m(1, 0), 3);
        Due.joined(s, Due.m(0, 2), 1, Due.m(0, 1), 1);
        Due.joined(s, Due.m(1, 0), 1, Due.m(0, 1), 1, 0, 1);
        Due.is("the two points of the line", s.basis(3), 2);
        Due.is("x + y + 1", s.member(0, 0), 1);
        Due.is("y leads not", s.lead(0), Due.m(1, 0));
        Due.is("y^2 + y", s.lead(1), Due.m(0, 2));
        Due.is("1 and y are left", s.standard(0) + s.standard(1) + s.standard(2), 2);
    }

    private static void oneVariable() {
        SpaceBasis s = new SpaceBasis();
        s.field(32003, 1, 1);
        int x = 1 << 24;
        Due.joined(s, 30 * x, 1, 0, -1);
        Due.joined(s, 24 * x, 1, 0, -1);
        Due.is("up to 29 x^30 - 1 is none", s.basis(29), 1);
        Due.is("x^24 - 1", s.lead(0), 24 * x);
        Due.is("not complete", s.ideal(0), 0);
        Due.is("one common divisor", s.basis(30), 1);
        Due.is("x^6 - 1", s.lead(0), 6 * x);
        Due.is("x^6 - 1", s.member(0, 0), 32002);
        Due.is("complete", s.ideal(0), 1);
        Due.is("dimension", s.ideal(3), 0);
        s.coefficient(30 * x, 1);
        s.coefficient(7 * x, 2);
        Due.fails("x^30 + 2 x^7", s.remainder());
        Due.is("1", s.hand(0), 1);
        Due.is("2 x", s.hand(x), 2);
    }

    private static void completeOrNot() {
        SpaceBasis s = new SpaceBasis();
        Due.joined(s, Due.m(2, 1), 1);
        Due.joined(s, Due.m(1, 2), 1);
        s.basis(3);
        Due.is("x^2 y^2 is above 3", s.ideal(0), 0);
        Due.is("then no dimension", s.ideal(3), SpaceBasis.NONE);
        s.basis(4);
        Due.is("x^2 y^2 is not above 4", s.ideal(0), 1);
        Due.is("dimension", s.ideal(3), 1);
        s.clear();
        Due.joined(s, Due.m(7, 0), 1);
        Due.joined(s, Due.m(0, 7), 1);
        s.basis(7);
        Due.is("the product may be above", s.ideal(0), 1);
        s.basis(6);
        Due.is("but not a generator", s.ideal(0), 0);
        Due.is("no basis polynomials", s.ideal(1), 0);
        s.clear();
        Due.joined(s, Due.m(1, 0), 1);
        Due.joined(s, Due.m(4, 0), 1);
        s.basis(3);
        Due.is("not even one that gives nothing new", s.ideal(0), 0);
        s.basis(4);
        Due.is("now it is there", s.ideal(0), 1);
        int[] whats = {Integer.MIN_VALUE, -1, 4, Integer.MAX_VALUE};
        for (int what : whats) {
            Due.is("ideal(" + what + ")", s.ideal(what), SpaceBasis.NONE);
        }
    }

    private static void dimensions() {
        int x = Due.m(1, 0, 0, 0);
        int y = Due.m(0, 1, 0, 0);
        int z = Due.m(0, 0, 1, 0);
        int w = Due.m(0, 0, 0, 1);
        dimension("nothing", 4);
        dimension("1", SpaceBasis.NONE, 0);
        dimension("x", 3, x);
        dimension("x y z w", 3, x + y + z + w);
        dimension("x y, z w", 2, x + y, z + w);
        dimension("x y, x z, x w", 3, x + y, x + z, x + w);
        dimension("all pairs", 1, x + y, x + z, x + w, y + z, y + w, z + w);
        dimension("y, z, w", 1, y, z, w);
        dimension("all squares", 0, 2 * x, 2 * y, 2 * z, 2 * w);
        dimension("x, y", 2, 2 * x, 2 * y);
        dimension("x^2, y^2, x z, y w", 2, 2 * x, 2 * y, x + z, y + w);
    }

    private static void dimension(String what, int want, int... monomials) {
        for (int order = 0; order <= 1; order++) {
            SpaceBasis s = new SpaceBasis();
            s.field(7, 4, order);
            for (int e : monomials) {
                Due.joined(s, e, 1);
            }
            Due.is("leads of " + what, s.basis(5), monomials.length);
            Due.is("complete: " + what, s.ideal(0), 1);
            Due.is("dimension of " + what, s.ideal(3), want);
        }
    }

    private static void standards() {
        SpaceBasis s = new SpaceBasis();
        s.field(7, 3, 0);
        Due.joined(s, Due.m(2, 0, 0, 0), 1, Due.m(0, 0, 1, 0), 2);
        Due.joined(s, Due.m(0, 3, 0, 0), 1);
        s.basis(6);
        int[] want = {1, 3, 5, 6, 6, 6, 6};
        for (int d = 0; d <= 6; d++) {
            Due.is("standard(" + d + ")", s.standard(d), want[d]);
        }
        for (int d : new int[] {Integer.MIN_VALUE, -1, 7, 8, 31, Integer.MAX_VALUE}) {
            Due.is("standard(" + d + ")", s.standard(d), SpaceBasis.NONE);
        }
        s.basis(2);
        Due.is("up to 2", s.standard(2), 5);
        Due.is("above 2", s.standard(3), SpaceBasis.NONE);
    }

    private static void remainders() {
        SpaceBasis s = twoCubics();
        s.basis(6);
        Due.put(s, Due.m(3, 3), 2, Due.m(2, 2), 1, Due.m(1, 0), 3, Due.m(0, 4), 4);
        // x^2 is y, y^2 is 1: 2 x + y + 3 x + 4
        Due.fails("not 0", s.remainder());
        Due.is("y", s.hand(Due.m(0, 1)), 1);
        Due.is("x", s.hand(Due.m(1, 0)), 0);
        Due.is("1", s.hand(0), 4);
        Due.is("x^3 y^3 is gone", s.hand(Due.m(3, 3)), 0);
        Due.is("y^4 is gone", s.hand(Due.m(0, 4)), 0);
        Due.fails("the same again", s.remainder());
        Due.is("y again", s.hand(Due.m(0, 1)), 1);
        Due.put(s, Due.m(0, 1), 1, Due.m(2, 4), -1, 0, 0);
        Due.holds("y - x^2 y^4", s.remainder());
        Due.is("hand is 0", s.hand(Due.m(0, 1)) + s.hand(Due.m(2, 4)), 0);
        Due.refusesArgument("0 does not join", s::join);
    }

    private static void remainderRefuses() {
        SpaceBasis s = twoCubics();
        s.coefficient(Due.m(2, 0), 1);
        Due.refusesState("no basis", s::remainder);
        Due.is("hand stays", s.hand(Due.m(2, 0)), 1);
        s.basis(1);
        Due.refusesState("x^2 is above 1", s::remainder);
        Due.is("hand stays", s.hand(Due.m(2, 0)), 1);
        s.basis(2);
        Due.fails("x^2 has itself up to 2", s.remainder());
        Due.is("hand stays", s.hand(Due.m(2, 0)), 1);
        s.basis(4);
        Due.fails("x^2 is y up to 4", s.remainder());
        Due.is("x^2", s.hand(Due.m(2, 0)), 0);
        Due.is("y", s.hand(Due.m(0, 1)), 1);
        s.coefficient(Due.m(0, 5), 1);
        Due.refusesState("y^5 is above 4", s::remainder);
        Due.is("nothing proved", s.proved(), 0);
    }

    private static void proofs() {
        SpaceBasis s = twoCubics();
        s.basis(4);
        Due.put(s, Due.m(2, 0), 3, Due.m(0, 1), -3);
        Due.holds("3 x^2 - 3 y", s.remainder());
        Due.is("proved", s.proved(), 1);
        Due.put(s, Due.m(1, 0), 1);
        Due.fails("x", s.remainder());
        Due.is("x is not proved", s.proved(), 1);
        s.coefficient(Due.m(1, 0), 0);
        Due.holds("0", s.remainder());
        Due.is("0 is a sum of nothing", s.proved(), 2);
        s.basis(6);
        Due.put(s, Due.m(4, 2), 1, 0, -1);
        Due.holds("x^4 y^2 - 1", s.remainder());
        Due.is("proved", s.proved(), 3);
        s.coefficient(Due.m(7, 0), 1);
        Due.refusesState("x^7", s::remainder);
        Due.is("a refused one does not count", s.proved(), 3);
        s.clear();
        Due.is("clear leaves the count", s.proved(), 3);
        s.basis(0);
        Due.holds("0 without generators", s.remainder());
        Due.is("proved without generators", s.proved(), 4);
        s.field(32003, 4, 1);
        Due.is("field leaves the count", s.proved(), 4);
        int x = Due.m(1, 0, 0, 0);
        Due.joined(s, x, 1, 1, 2, 0, 7);
        Due.is("join leaves the count", s.proved(), 4);
        s.basis(5);
        Due.put(s, 5 * x, 1, 4 * x + 1, 2, 4 * x, 7);
        Due.holds("x^4 times it", s.remainder());
        Due.is("proved in another field", s.proved(), 5);
        Due.is("asking changes nothing", s.proved(), 5);
    }
}
