import java.util.ArrayList;
import java.util.Comparator;
import java.util.List;
import java.util.TreeMap;

/**
 * The document's words taken literally and slowly, to hold the class against: polynomials are maps
 * from exponents to numbers, the space is found by multiplying everything until nothing comes new.
 * Answers are longs; THREW_ARGUMENT and THREW_STATE stand for the exceptions.
 */
final class PlainModel {
    static final long THREW_ARGUMENT = Long.MIN_VALUE;
    static final long THREW_STATE = Long.MIN_VALUE + 1;

    private static final int[] HIGHEST = {0, 30, 12, 7, 5};

    private long p = 7;
    private int n = 2;
    private int order = 0;
    private final List<TreeMap<List<Integer>, Long>> generators = new ArrayList<>();
    private TreeMap<List<Integer>, Long> inHand = zero();
    private int upTo = -1;
    private List<TreeMap<List<Integer>, Long>> rows = new ArrayList<>();
    private List<TreeMap<List<Integer>, Long>> members = new ArrayList<>();
    private long provedOnes = 0;

    private TreeMap<List<Integer>, Long> zero() {
        Comparator<List<Integer>> byOrder = this::compareMonomials;
        return new TreeMap<>(byOrder);
    }

    private int compareMonomials(List<Integer> a, List<Integer> b) {
        int byDegree = Integer.compare(degree(a), degree(b));
        if (byDegree != 0) {
            return byDegree;
        }
        if (order == 0) {
            for (int v = 3; v >= 0; v--) {
                if (!a.get(v).equals(b.get(v))) {
                    return a.get(v) < b.get(v) ? 1 : -1;
                }
            }
        } else {
            for (int v = 0; v < 4; v++) {
                if (!a.get(v).equals(b.get(v))) {
                    return a.get(v) > b.get(v) ? 1 : -1;
                }
            }
        }
        return 0;
    }

    private static int degree(List<Integer> monomial) {
        int sum = 0;
        for (int exponent : monomial) {
            sum += exponent;
        }
        return sum;
    }

    private static int degree(TreeMap<List<Integer>, Long> f) {
        int greatest = -1;
        for (List<Integer> monomial : f.keySet()) {
            greatest = Math.max(greatest, degree(monomial));
        }
        return greatest;
    }

    private List<Integer> monomial(int e) {
        for (List<Integer> candidate : allMonomials(HIGHEST[n])) {
            if (told(candidate) == e) {
                return candidate;
            }
        }
        return null;
    }

    private static long told(List<Integer> m) {
        return 16777216L * m.get(0) + 65536L * m.get(1) + 256L * m.get(2) + m.get(3);
    }

    private List<List<Integer>> allMonomials(int greatest) {
        List<List<Integer>> all = new ArrayList<>();
        for (int x = 0; x <= greatest; x++) {
            for (int y = 0; y <= (n > 1 ? greatest - x : 0); y++) {
                for (int z = 0; z <= (n > 2 ? greatest - x - y : 0); z++) {
                    for (int w = 0; w <= (n > 3 ? greatest - x - y - z : 0); w++) {
                        all.add(List.of(x, y, z, w));
                    }
                }
            }
        }
        return all;
    }

    private static boolean divides(List<Integer> a, List<Integer> b) {
        for (int v = 0; v < 4; v++) {
            if (a.get(v) > b.get(v)) {
                return false;
            }
        }
        return true;
    }

    private long inverse(long c) {
        long old = p;
        long now = c;
        long oldFactor = 0;
        long factor = 1;
        while (now != 1) {
            long q = old / now;
            long rest = old - q * now;
            long restFactor = oldFactor - q * factor;
            old = now;
            oldFactor = factor;
            now = rest;
            factor = restFactor;
        }
        return Math.floorMod(factor, p);
    }

    private void add(TreeMap<List<Integer>, Long> to, TreeMap<List<Integer>, Long> what, long c) {
        for (List<Integer> monomial : what.keySet()) {
            long sum = to.getOrDefault(monomial, 0L) + c * what.get(monomial);
            long rest = Math.floorMod(sum, p);
            if (rest == 0) {
                to.remove(monomial);
            } else {
                to.put(monomial, rest);
            }
        }
    }

    private TreeMap<List<Integer>, Long> times(TreeMap<List<Integer>, Long> f, int variable) {
        TreeMap<List<Integer>, Long> product = zero();
        for (List<Integer> monomial : f.keySet()) {
            List<Integer> next = new ArrayList<>(monomial);
            next.set(variable, next.get(variable) + 1);
            product.put(next, f.get(monomial));
        }
        return product;
    }

    /** The reduced rows that span what these span: Gauss and Jordan's way. */
    private List<TreeMap<List<Integer>, Long>> echelon(List<TreeMap<List<Integer>, Long>> all) {
        List<TreeMap<List<Integer>, Long>> result = new ArrayList<>();
        for (TreeMap<List<Integer>, Long> f : all) {
            TreeMap<List<Integer>, Long> rest = reduced(f, result);
            if (rest.isEmpty()) {
                continue;
            }
            long scale = inverse(rest.lastEntry().getValue());
            TreeMap<List<Integer>, Long> row = zero();
            add(row, rest, scale);
            for (TreeMap<List<Integer>, Long> earlier : result) {
                add(earlier, row, -earlier.getOrDefault(row.lastKey(), 0L));
            }
            result.add(row);
        }
        return result;
    }

    private TreeMap<List<Integer>, Long> reduced(
            TreeMap<List<Integer>, Long> f, List<TreeMap<List<Integer>, Long>> by) {
        TreeMap<List<Integer>, Long> rest = zero();
        rest.putAll(f);
        for (TreeMap<List<Integer>, Long> row : by) {
            add(rest, row, -rest.getOrDefault(row.lastKey(), 0L));
        }
        return rest;
    }

    private void findSpace(int d) {
        List<TreeMap<List<Integer>, Long>> had = new ArrayList<>();
        for (TreeMap<List<Integer>, Long> g : generators) {
            if (degree(g) <= d) {
                had.add(g);
            }
        }
        rows = echelon(had);
        int before = -1;
        while (before != rows.size()) {
            before = rows.size();
            List<TreeMap<List<Integer>, Long>> more = new ArrayList<>(rows);
            for (TreeMap<List<Integer>, Long> row : rows) {
                for (int v = 0; v < n && degree(row) < d; v++) {
                    more.add(times(row, v));
                }
            }
            rows = echelon(more);
        }
    }

    private void findMembers() {
        members = new ArrayList<>();
        for (TreeMap<List<Integer>, Long> row : rows) {
            boolean divided = false;
            for (TreeMap<List<Integer>, Long> other : rows) {
                divided |= other != row && divides(other.lastKey(), row.lastKey());
            }
            if (!divided) {
                members.add(row);
            }
        }
        members.sort((a, b) -> compareMonomials(a.lastKey(), b.lastKey()));
    }

    private boolean complete() {
        for (TreeMap<List<Integer>, Long> g : generators) {
            if (degree(g) > upTo) {
                return false;
            }
        }
        for (TreeMap<List<Integer>, Long> a : members) {
            for (TreeMap<List<Integer>, Long> b : members) {
                List<Integer> multiple = new ArrayList<>();
                List<Integer> product = new ArrayList<>();
                for (int v = 0; v < 4; v++) {
                    multiple.add(Math.max(a.lastKey().get(v), b.lastKey().get(v)));
                    product.add(a.lastKey().get(v) + b.lastKey().get(v));
                }
                if (a != b && degree(multiple) > upTo && !multiple.equals(product)) {
                    return false;
                }
            }
        }
        return true;
    }

    private int dimension() {
        int greatest = -1;
        for (int set = 0; set < 1 << n; set++) {
            boolean free = true;
            for (TreeMap<List<Integer>, Long> row : rows) {
                boolean alone = true;
                for (int v = 0; v < n; v++) {
                    alone &= row.lastKey().get(v) == 0 || (set >> v & 1) == 1;
                }
                free &= !alone;
            }
            if (free) {
                greatest = Math.max(greatest, Integer.bitCount(set));
            }
        }
        return greatest;
    }

    /** The polynomial in hand, as pairs of a monomial as it is told and a number. */
    List<int[]> termsInHand() {
        return terms(inHand);
    }

    int generatorCount() {
        return generators.size();
    }

    List<int[]> termsOfGenerator(int g) {
        return terms(generators.get(g));
    }

    private static List<int[]> terms(TreeMap<List<Integer>, Long> f) {
        List<int[]> pairs = new ArrayList<>();
        for (List<Integer> monomial : f.keySet()) {
            pairs.add(new int[] {(int) told(monomial), f.get(monomial).intValue()});
        }
        return pairs;
    }

    long field(int prime, int variables, int kind) {
        boolean good = prime > 1 && prime <= 32003;
        for (int d = 2; good && d < prime; d++) {
            good = prime % d != 0;
        }
        if (!good || variables < 1 || variables > 4 || kind < 0 || kind > 1) {
            return THREW_ARGUMENT;
        }
        p = prime;
        n = variables;
        order = kind;
        return clear();
    }

    long coefficient(int e, int c) {
        List<Integer> monomial = monomial(e);
        if (monomial == null) {
            return THREW_ARGUMENT;
        }
        inHand.remove(monomial);
        if (Math.floorMod((long) c, p) != 0) {
            inHand.put(monomial, Math.floorMod((long) c, p));
        }
        return 0;
    }

    long hand(int e) {
        List<Integer> monomial = monomial(e);
        return monomial == null ? 0 : inHand.getOrDefault(monomial, 0L);
    }

    long join() {
        if (inHand.isEmpty()) {
            return THREW_ARGUMENT;
        }
        if (generators.size() == 8) {
            return THREW_STATE;
        }
        generators.add(inHand);
        inHand = zero();
        upTo = -1;
        return generators.size();
    }

    long clear() {
        generators.clear();
        inHand = zero();
        upTo = -1;
        return 0;
    }

    long basis(int d) {
        if (d < 0 || d > HIGHEST[n]) {
            return THREW_ARGUMENT;
        }
        upTo = d;
        findSpace(d);
        findMembers();
        return members.size();
    }

    long lead(int k) {
        return upTo < 0 || k < 0 || k >= members.size() ? -1 : told(members.get(k).lastKey());
    }

    long member(int k, int e) {
        List<Integer> monomial = monomial(e);
        if (upTo < 0 || k < 0 || k >= members.size() || monomial == null) {
            return 0;
        }
        return members.get(k).getOrDefault(monomial, 0L);
    }

    long ideal(int what) {
        if (upTo < 0 || what < 0 || what > 3) {
            return -1;
        }
        long[] answers = {
            complete() ? 1 : 0, members.size(), upTo, complete() ? dimension() : -1
        };
        return answers[what];
    }

    long standard(int d) {
        if (upTo < 0 || d < 0 || d > upTo) {
            return -1;
        }
        long count = 0;
        for (List<Integer> monomial : allMonomials(d)) {
            boolean leads = degree(monomial) != d;
            for (TreeMap<List<Integer>, Long> row : rows) {
                leads |= row.lastKey().equals(monomial);
            }
            count += leads ? 0 : 1;
        }
        return count;
    }

    long remainder() {
        if (upTo < 0 || degree(inHand) > upTo) {
            return THREW_STATE;
        }
        inHand = reduced(inHand, rows);
        if (inHand.isEmpty()) {
            provedOnes++;
        }
        return inHand.isEmpty() ? 1 : 0;
    }

    long proved() {
        return provedOnes;
    }
}
