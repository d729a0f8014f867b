/** Promises 1 to 6: a new object, field, coefficient, hand, join, clear. */
public final class StateTest {
    private static final int[] HIGHEST = {0, 30, 12, 7, 5};
    private static final int[] UNIT = {16777216, 65536, 256, 1};

    public static void main(String[] args) {
        newObject();
        fieldOfGoodNumbers();
        fieldOfWrongNumbers();
        fieldBeginsAnew();
        fieldSetsTheOrder();
        coefficientAndHand();
        monomialsOfTheVariables();
        joinCounts();
        joinRefuses();
        clearForgets();
        Due.end("StateTest");
    }

    private static void withoutBasis(String when, SpaceBasis s) {
        for (int what = -1; what <= 4; what++) {
            Due.is(when + ": ideal(" + what + ")", s.ideal(what), SpaceBasis.NONE);
        }
        Due.is(when + ": standard(0)", s.standard(0), SpaceBasis.NONE);
        Due.is(when + ": standard(-1)", s.standard(-1), SpaceBasis.NONE);
        Due.is(when + ": lead(0)", s.lead(0), SpaceBasis.NONE);
        Due.is(when + ": member(0, 0)", s.member(0, 0), 0);
        Due.refusesState(when + ": remainder()", s::remainder);
    }

    private static void newObject() {
        SpaceBasis s = new SpaceBasis();
        Due.is("NONE", SpaceBasis.NONE, -1);
        withoutBasis("new", s);
        Due.is("new: proved()", s.proved(), 0);
        Due.is("new: hand(0)", s.hand(0), 0);
        Due.refusesArgument("new: join()", s::join);
        Due.refusesArgument("new: z", () -> s.coefficient(256, 1));
        Due.refusesArgument("new: w", () -> s.coefficient(1, 1));
        Due.refusesArgument("new: x^13", () -> s.coefficient(Due.m(13, 0), 1));
        Due.refusesArgument("new: basis(13)", () -> s.basis(13));
        s.coefficient(Due.m(6, 6), 9);
        Due.is("new: modulo 7", s.hand(Due.m(6, 6)), 2);
        Due.is("new: first generator", s.join(), 1);
        Due.is("new: basis(12)", s.basis(12), 1);
        SpaceBasis t = new SpaceBasis();
        Due.is("new: basis of nothing", t.basis(12), 0);
        Due.is("new: two variables", t.ideal(3), 2);
        Due.is("new: standard(12)", t.standard(12), 13);
    }

    private static void fieldOfGoodNumbers() {
        int[] primes = {2, 3, 5, 7, 179, 181, 31991, 32003};
        for (int p : primes) {
            for (int n = 1; n <= 4; n++) {
                for (int order = 0; order <= 1; order++) {
                    SpaceBasis s = new SpaceBasis();
                    s.field(p, n, order);
                    s.coefficient(0, p - 1);
                    Due.is("p - 1 with " + p, s.hand(0), p - 1);
                    s.coefficient(0, p);
                    Due.is("p with " + p, s.hand(0), 0);
                    Due.is("basis of nothing", s.basis(HIGHEST[n]), 0);
                    Due.is("variables", s.ideal(3), n);
                }
            }
        }
    }

    private static void fieldOfWrongNumbers() {
        SpaceBasis s = new SpaceBasis();
        Due.joined(s, Due.m(1, 0), 1);
        s.basis(2);
        s.coefficient(0, 3);
        int[] wrong = {
            Integer.MIN_VALUE, -7, -2, -1, 0, 1, 4, 6, 9, 15, 49, 169, 173 * 173, 31 * 1031, 32001,
            32002, 32004, 32009, 32027, 65537, Integer.MAX_VALUE
        };
        for (int p : wrong) {
            Due.refusesArgument("field of " + p, () -> s.field(p, 2, 0));
        }
        int[] counts = {Integer.MIN_VALUE, -1, 0, 5, Integer.MAX_VALUE};
        for (int n : counts) {
            Due.refusesArgument("field with n " + n, () -> s.field(7, n, 0));
        }
        int[] orders = {Integer.MIN_VALUE, -1, 2, Integer.MAX_VALUE};
        for (int order : orders) {
            Due.refusesArgument("field with order " + order, () -> s.field(7, 2, order));
        }
        Due.is("after refused fields: hand", s.hand(0), 3);
        Due.is("after refused fields: basis", s.ideal(2), 2);
        Due.is("after refused fields: lead", s.lead(0), Due.m(1, 0));
        s.coefficient(0, 10);
        Due.is("after refused fields: modulus", s.hand(0), 3);
        Due.is("after refused fields: generators", s.join(), 2);
    }

    private static void fieldBeginsAnew() {
        SpaceBasis s = new SpaceBasis();
        Due.joined(s, Due.m(1, 0), 1);
        s.basis(3);
        s.coefficient(Due.m(0, 1), 4);
        s.field(7, 2, 0);
        withoutBasis("after field", s);
        Due.is("after field: hand", s.hand(Due.m(0, 1)), 0);
        Due.refusesArgument("after field: join", s::join);
        Due.is("after field: no generators", s.basis(3), 0);
        Due.is("after field: first", Due.joined(s, 0, 1), 1);
    }

    private static void fieldSetsTheOrder() {
        SpaceBasis s = new SpaceBasis();
        int xz = Due.m(1, 0, 1, 0);
        int yy = Due.m(0, 2, 0, 0);
        s.field(11, 3, 0);
        Due.joined(s, xz, 1, yy, 1);
        s.basis(2);
        Due.is("order 0: the last exponent that differs is less", s.lead(0), yy);
        s.field(11, 3, 1);
        Due.joined(s, xz, 1, yy, 1);
        s.basis(2);
        Due.is("order 1: the first exponent that differs is greater", s.lead(0), xz);
        int xw = Due.m(1, 0, 0, 1);
        int yz = Due.m(0, 1, 1, 0);
        for (int order = 0; order <= 1; order++) {
            s.field(11, 4, order);
            Due.joined(s, xw, 2, yz, 5, Due.m(1, 0, 0, 0), 3);
            s.basis(2);
            Due.is("order " + order + " of xw, yz", s.lead(0), order == 0 ? yz : xw);
            s.clear();
            Due.joined(s, Due.m(1, 0, 0, 0), 1, Due.m(0, 0, 0, 2), 1);
            s.basis(2);
            Due.is("the degree goes first", s.lead(0), 2);
        }
    }

    private static void coefficientAndHand() {
        SpaceBasis s = new SpaceBasis();
        s.field(32003, 2, 1);
        int xy = Due.m(1, 1);
        s.coefficient(xy, 5);
        s.coefficient(xy, 6);
        Due.is("the last coefficient counts", s.hand(xy), 6);
        s.coefficient(xy, -1);
        Due.is("-1", s.hand(xy), 32002);
        s.coefficient(xy, -32003);
        Due.is("-p", s.hand(xy), 0);
        s.coefficient(xy, Integer.MIN_VALUE);
        Due.is("least", s.hand(xy), Math.floorMod((long) Integer.MIN_VALUE, 32003L));
        s.coefficient(xy, Integer.MAX_VALUE);
        Due.is("greatest", s.hand(xy), Integer.MAX_VALUE % 32003);
        Due.is("another monomial", s.hand(Due.m(1, 0)), 0);
        Due.is("hand of none", s.hand(-1), 0);
        Due.is("hand of z", s.hand(256), 0);
        Due.is("hand above the highest", s.hand(Due.m(7, 6)), 0);
        Due.refusesArgument("coefficient of none", () -> s.coefficient(-1, 1));
        Due.refusesArgument("coefficient 0 of none", () -> s.coefficient(256, 0));
        Due.is("unchanged", s.hand(xy), Integer.MAX_VALUE % 32003);
        s.coefficient(xy, 0);
        Due.refusesArgument("0 is taken out again", s::join);
    }

    private static void monomialsOfTheVariables() {
        SpaceBasis s = new SpaceBasis();
        for (int n = 1; n <= 4; n++) {
            s.field(13, n, n % 2);
            for (int v = 0; v < 4; v++) {
                int good = UNIT[v] * HIGHEST[n];
                int above = UNIT[v] * (HIGHEST[n] + 1);
                if (v < n) {
                    s.coefficient(good, v + 2);
                    Due.is("n " + n + " highest of " + v, s.hand(good), v + 2);
                } else {
                    Due.refusesArgument("n " + n + " variable " + v, () -> s.coefficient(good, 1));
                }
                Due.refusesArgument("n " + n + " above of " + v, () -> s.coefficient(above, 1));
                Due.is("n " + n + " hand above of " + v, s.hand(above), 0);
            }
            int mixed = UNIT[0] * HIGHEST[n] + UNIT[n - 1];
            Due.refusesArgument("n " + n + " mixed above", () -> s.coefficient(mixed, 1));
            for (int e : new int[] {Integer.MIN_VALUE, Integer.MAX_VALUE, -16777216, 255 << 8, -256}) {
                Due.refusesArgument("n " + n + " no monomial " + e, () -> s.coefficient(e, 1));
                Due.is("n " + n + " hand of " + e, s.hand(e), 0);
            }
        }
    }

    private static void joinCounts() {
        SpaceBasis s = new SpaceBasis();
        for (int i = 1; i <= 8; i++) {
            Due.is("join " + i, Due.joined(s, Due.m(i, 1), i % 6 + 1, 0, 1), i);
            Due.is("hand after join", s.hand(Due.m(i, 1)) + s.hand(0), 0);
        }
        SpaceBasis t = new SpaceBasis();
        t.basis(4);
        Due.joined(t, Due.m(2, 0), 1);
        withoutBasis("after join", t);
        Due.is("the same twice", Due.joined(t, Due.m(2, 0), 1), 2);
        Due.is("the same twice, once in the basis", t.basis(4), 1);
    }

    private static void joinRefuses() {
        SpaceBasis s = new SpaceBasis();
        for (int i = 1; i <= 8; i++) {
            Due.joined(s, Due.m(i, 0), 1);
        }
        Due.is("basis of eight", s.basis(12), 1);
        Due.refusesArgument("0 joins eight", s::join);
        s.coefficient(Due.m(0, 1), 5);
        Due.refusesState("a ninth joins", s::join);
        Due.is("hand after a ninth", s.hand(Due.m(0, 1)), 5);
        Due.is("basis after a ninth", s.ideal(2), 12);
        Due.is("basis after a ninth, anew", s.basis(11), 1);
        SpaceBasis t = new SpaceBasis();
        t.basis(3);
        Due.refusesArgument("0 joins", t::join);
        Due.is("the basis stays", t.ideal(2), 3);
        Due.is("0 did not join", Due.joined(t, 0, 1), 1);
    }

    private static void clearForgets() {
        SpaceBasis s = new SpaceBasis();
        s.field(3, 3, 1);
        Due.joined(s, Due.m(1, 0, 1, 0), 1, Due.m(0, 2, 0, 0), 1);
        s.basis(4);
        s.coefficient(1 << 24, 1);
        s.clear();
        withoutBasis("after clear", s);
        Due.is("after clear: hand", s.hand(1 << 24), 0);
        Due.refusesArgument("after clear: join", s::join);
        s.coefficient(0, 4);
        Due.is("after clear: the field stays", s.hand(0), 1);
        s.coefficient(0, 0);
        Due.is("after clear: first", Due.joined(s, 256 + (1 << 24), 1, 2 << 16, 1), 1);
        s.basis(7);
        Due.is("after clear: the order stays", s.lead(0), Due.m(1, 0, 1, 0));
        s.clear();
        Due.is("after clear: no generators", s.basis(7), 0);
        for (int i = 1; i <= 8; i++) {
            Due.is("after clear: eight again", Due.joined(s, 0, 1), i);
        }
    }
}
