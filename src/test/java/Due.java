import java.util.List;

/** What the tests share: counts and prints each answer that is not the one that is due. */
final class Due {
    private static int wrong = 0;

    private Due() {
    }

    static void is(String what, long got, long want) {
        if (got != want) {
            wrong++;
            System.out.println(what + " answered " + got + ", due is " + want);
        }
    }

    static void holds(String what, boolean got) {
        is(what, got ? 1 : 0, 1);
    }

    static void fails(String what, boolean got) {
        is(what, got ? 1 : 0, 0);
    }

    /** Two rows of answers must be the same; the first difference is told. */
    static void same(String what, List<Long> got, List<Long> want) {
        if (got.equals(want)) {
            return;
        }
        wrong++;
        int i = 0;
        while (i < got.size() && i < want.size() && got.get(i).equals(want.get(i))) {
            i++;
        }
        System.out.println(what + ": answer " + i + " of " + got.size() + " is "
            + (i < got.size() ? got.get(i) : "missing") + ", due is "
            + (i < want.size() ? want.get(i) : "nothing"));
    }

    /** The call must throw just this exception. */
    static void throwing(String what, Class<? extends RuntimeException> want, Runnable call) {
        Class<?> got = null;
        try {
            call.run();
        } catch (RuntimeException e) {
            got = e.getClass();
        }
        if (got != want) {
            wrong++;
            System.out.println(what + " threw " + got + ", due is " + want);
        }
    }

    static void refusesArgument(String what, Runnable call) {
        throwing(what, IllegalArgumentException.class, call);
    }

    static void refusesState(String what, Runnable call) {
        throwing(what, IllegalStateException.class, call);
    }

    /** A monomial as the class is told it. */
    static int m(int x, int y, int z, int w) {
        return x * 16777216 + y * 65536 + z * 256 + w;
    }

    static int m(int x, int y) {
        return m(x, y, 0, 0);
    }

    /** Puts monomials into the hand: pairs of a monomial and its coefficient. */
    static void put(SpaceBasis s, int... pairs) {
        for (int i = 0; i + 1 < pairs.length; i += 2) {
            s.coefficient(pairs[i], pairs[i + 1]);
        }
    }

    static int joined(SpaceBasis s, int... pairs) {
        put(s, pairs);
        return s.join();
    }

    static void end(String name) {
        System.out.println(name + ": " + (wrong == 0 ? "as due" : wrong + " answers are not as due"));
        if (wrong != 0) {
            System.exit(1);
        }
    }
}
