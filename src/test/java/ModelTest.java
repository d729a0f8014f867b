/**
 * Long runs of mixed calls, good and wrong ones, on the class and on the plain model side by side:
 * every answer of all thirteen promises must be the same.
 */
public final class ModelTest {
    private static final int[] HIGHEST = {0, 30, 12, 7, 5};
    private static final int[] PRIMES = {2, 3, 5, 7, 101, 32003};
    private static final int[] ODD = {
        Integer.MIN_VALUE, -16777216, -2, -1, 4, 13, 31, 255, 65535, Integer.MAX_VALUE
    };

    private final int run;
    private long seed;
    private SpaceBasis real = new SpaceBasis();
    private PlainModel model = new PlainModel();
    private int n = 2;
    private int calls = 0;

    private ModelTest(int run) {
        this.run = run;
        this.seed = run * 7919L + 17;
    }

    public static void main(String[] args) {
        for (int run = 0; run < 140; run++) {
            new ModelTest(run).play();
        }
        Due.end("ModelTest");
    }

    /** A fixed row of numbers that looks mixed, so that every run is the same each time. */
    private int below(int bound) {
        seed = seed * 6364136223846793005L + 1442695040888963407L;
        return (int) Math.floorMod(seed >>> 33, (long) bound);
    }

    private interface Call {
        long answer();
    }

    private void same(String what, Call call, long want) {
        long got;
        try {
            got = call.answer();
        } catch (IllegalArgumentException e) {
            got = PlainModel.THREW_ARGUMENT;
        } catch (IllegalStateException e) {
            got = PlainModel.THREW_STATE;
        }
        calls++;
        Due.is("run " + run + ", call " + calls + ", " + what, got, want);
    }

    private void play() {
        setField();
        while (calls < 400) {
            switch (below(12)) {
                case 0:
                    if (below(6) == 0) {
                        setField();
                    }
                    break;
                case 1:
                    if (below(4) == 0) {
                        same("clear", () -> {
                            real.clear();
                            return 0;
                        }, model.clear());
                    }
                    break;
                case 2, 3, 4:
                    fillHand(below(3) == 0 ? HIGHEST[n] : 3);
                    same("join", () -> real.join(), model.join());
                    break;
                case 5, 6:
                    int d = below(10) == 0 ? odd() : below(HIGHEST[n] + 1);
                    same("basis " + d, () -> real.basis(d), model.basis(d));
                    askBasis();
                    break;
                case 7, 8, 9:
                    fillHand(HIGHEST[n]);
                    askRemainder();
                    break;
                case 10:
                    multipleOfGenerator();
                    askRemainder();
                    break;
                default:
                    oddCalls();
                    break;
            }
        }
    }

    private int odd() {
        return ODD[below(ODD.length)];
    }

    private void setField() {
        int p = below(9) == 0 ? below(40000) - 10 : PRIMES[below(PRIMES.length)];
        int variables = below(9) == 0 ? odd() : 1 + below(4);
        int order = below(9) == 0 ? odd() : below(2);
        long want = model.field(p, variables, order);
        same("field " + p + " " + variables + " " + order, () -> {
            real.field(p, variables, order);
            return 0;
        }, want);
        if (want == 0) {
            n = variables;
        }
    }

    private int someMonomial(int degree) {
        int rest = below(degree + 1);
        int e = 0;
        for (int v = 0; v < n; v++) {
            int exponent = v == n - 1 ? rest : below(rest + 1);
            rest -= exponent;
            e += exponent << (24 - 8 * v);
        }
        return e;
    }

    private void set(int e, int c) {
        same("coefficient " + e + " " + c, () -> {
            real.coefficient(e, c);
            return 0;
        }, model.coefficient(e, c));
    }

    private void fillHand(int degree) {
        int terms = below(5);
        for (int i = 0; i < terms; i++) {
            set(someMonomial(degree), below(3) == 0 ? below(70000) - 35000 : below(5) - 2);
        }
    }

    /** A product of a generator with a number and a monomial, if it is not too high. */
    private void multipleOfGenerator() {
        for (int[] term : model.termsInHand()) {
            set(term[0], 0);
        }
        if (model.generatorCount() == 0) {
            return;
        }
        int factor = someMonomial(2);
        int c = below(1000) + 1;
        for (int[] term : model.termsOfGenerator(below(model.generatorCount()))) {
            set(term[0] + factor, c * term[1]);
        }
    }

    private void askRemainder() {
        same("remainder", () -> real.remainder() ? 1 : 0, model.remainder());
        same("proved", () -> real.proved(), model.proved());
        for (int i = 0; i < 4; i++) {
            int e = someMonomial(HIGHEST[n]);
            same("hand " + e, () -> real.hand(e), model.hand(e));
        }
    }

    private void askBasis() {
        for (int what = 0; what < 4; what++) {
            int w = what;
            same("ideal " + w, () -> real.ideal(w), model.ideal(w));
        }
        int count = (int) Math.max(0, model.ideal(1));
        for (int i = 0; i < 4; i++) {
            int k = i == 0 ? count - 1 : below(count + 2);
            same("lead " + k, () -> real.lead(k), model.lead(k));
            int e = below(3) == 0 ? (int) model.lead(k) : someMonomial(3);
            same("member " + k + " " + e, () -> real.member(k, e), model.member(k, e));
            int d = below(HIGHEST[n] + 2);
            same("standard " + d, () -> real.standard(d), model.standard(d));
        }
    }

    private void oddCalls() {
        int a = odd();
        int b = odd();
        set(a, b);
        same("hand " + a, () -> real.hand(a), model.hand(a));
        same("lead " + a, () -> real.lead(a), model.lead(a));
        same("member " + a, () -> real.member(a, b), model.member(a, b));
        same("member 0 " + b, () -> real.member(0, b), model.member(0, b));
        same("ideal " + a, () -> real.ideal(a), model.ideal(a));
        same("standard " + a, () -> real.standard(a), model.standard(a));
        same("join", () -> real.join(), model.join());
    }
}
