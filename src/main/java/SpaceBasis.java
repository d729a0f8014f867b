import java.util.Arrays;

/**
 * The reduced basis of all that some polynomials over the numbers modulo a prime give up to a
 * degree, with remainders, proofs, sizes by degrees and the dimension.
 *
 * <p>Monomials are held by their place in the order, the least first. The order goes by degree
 * first, so the monomials up to a degree are always the first places, and a polynomial is a row of
 * coefficients by place.
 */
public final class SpaceBasis {
    public static final int NONE = -1;

    private static final int MOST_VARIABLES = 4;
    private static final int MOST_GENERATORS = 8;
    private static final int GREATEST_PRIME = 32003;
    private static final int GREATEST_DEGREE = 30;
    private static final int[] HIGHEST_OF_VARIABLES = {0, 30, 12, 7, 5};
    // Four variables up to degree 5 have the most monomials: 9 over 4.
    private static final int MOST_MONOMIALS = 126;
    private static final int TRIANGLE = MOST_MONOMIALS * (MOST_MONOMIALS + 1) / 2;

    private final Modulus modulus;
    private final Monomials monomials;
    private final Generators generators;
    private final Space space;
    private final Members members;
    private final Proof proof;
    private final int[] inHand;
    private final int[] asked;
    private int provedCount;

    public SpaceBasis() {
        modulus = new Modulus();
        monomials = new Monomials();
        generators = new Generators();
        space = new Space(modulus, monomials);
        members = new Members(monomials, space);
        proof = new Proof(modulus, generators, space);
        inHand = new int[MOST_MONOMIALS];
        asked = new int[MOST_MONOMIALS];
        provedCount = 0;
        beginField(7, 2, 0);
    }

    public void field(int p, int n, int order) throws IllegalArgumentException {
        if (!Modulus.isPrime(p)) {
            throw new IllegalArgumentException("p is no prime up to 32003");
        }
        if (n < 1 || n > MOST_VARIABLES) {
            throw new IllegalArgumentException("n is not 1 .. 4");
        }
        if (order != 0 && order != 1) {
            throw new IllegalArgumentException("order is not 0 or 1");
        }
        beginField(p, n, order);
    }

    public void coefficient(int e, int c) throws IllegalArgumentException {
        int place = monomials.placeOf(e);
        if (place == NONE) {
            throw new IllegalArgumentException("e is no monomial of the variables");
        }
        inHand[place] = modulus.within(c);
    }

    public int hand(int e) {
        int place = monomials.placeOf(e);
        return place == NONE ? 0 : inHand[place];
    }

    public int join() throws IllegalArgumentException, IllegalStateException {
        int top = topOf(inHand, monomials.count - 1);
        if (top == NONE) {
            throw new IllegalArgumentException("the polynomial in hand is 0");
        }
        if (generators.count >= MOST_GENERATORS) {
            throw new IllegalStateException("there are 8 generators");
        }
        generators.add(inHand, top);
        emptyHand();
        space.forget();
        return generators.count;
    }

    public void clear() {
        beginAnew();
    }

    public int basis(int d) throws IllegalArgumentException {
        if (d < 0 || d > monomials.highest) {
            throw new IllegalArgumentException("d is not 0 .. HIGHEST");
        }
        // A basis goes when the generators change: one that is still there is the one asked for.
        if (space.degree != d) {
            space.span(d, generators);
            members.find(generators.greatestTop() < space.size);
            proof.begin();
        }
        return members.count;
    }

    public int lead(int k) {
        return hasMember(k) ? monomials.codes[members.leads[k]] : NONE;
    }

    public int member(int k, int e) {
        return hasMember(k) ? members.coefficientAt(k, monomials.placeOf(e)) : 0;
    }

    public int ideal(int what) {
        if (space.degree == NONE) {
            return NONE;
        }
        switch (what) {
            case 0:
                return members.complete ? 1 : 0;
            case 1:
                return members.count;
            case 2:
                return space.degree;
            case 3:
                return members.complete ? members.dimension() : NONE;
            default:
                return NONE;
        }
    }

    public int standard(int d) {
        // Without a basis the space's degree is NONE, and then no d passes.
        if (d < 0 || d > space.degree) {
            return NONE;
        }
        return space.standardOfDegree(d);
    }

    public boolean remainder() throws IllegalStateException {
        if (space.degree == NONE) {
            throw new IllegalStateException("there is no basis");
        }
        int top = topOf(inHand, monomials.count - 1);
        if (top >= space.size) {
            throw new IllegalStateException("the polynomial in hand is above the basis' degree");
        }
        System.arraycopy(inHand, 0, asked, 0, MOST_MONOMIALS);
        space.reduce(inHand, top);
        if (topOf(inHand, top) != NONE) {
            return false;
        }
        if (proof.reckonsOut(asked)) {
            provedCount++;
        }
        return true;
    }

    public int proved() {
        return provedCount;
    }

    private void beginField(int p, int n, int order) {
        modulus.prime = p;
        monomials.list(n, order);
        beginAnew();
    }

    private void beginAnew() {
        generators.count = 0;
        emptyHand();
        space.forget();
    }

    private void emptyHand() {
        Arrays.fill(inHand, 0);
    }

    private boolean hasMember(int k) {
        return space.degree != NONE && k >= 0 && k < members.count;
    }

    /** The greatest place up to the given one with a coefficient that is not 0, or NONE. */
    private static int topOf(int[] polynomial, int from) {
        for (int i = Math.min(from, polynomial.length - 1); i >= 0; i--) {
            if (polynomial[i] != 0) {
                return i;
            }
        }
        return NONE;
    }

    /** Where line i begins when the lines 0, 1, 2 .. have 1, 2, 3 .. elements. */
    private static int startOfLine(int i) {
        return i * (i + 1) / 2;
    }

    /** Reckoning modulo the prime. Two factors below 32003 and a summand stay within an int. */
    private static final class Modulus {
        private int prime = 7;

        static boolean isPrime(int p) {
            if (p < 2 || p > GREATEST_PRIME) {
                return false;
            }
            for (int d = 2; d * d <= p; d++) {
                if (p % d == 0) {
                    return false;
                }
            }
            return true;
        }

        int within(int c) {
            return Math.floorMod(c, prime);
        }

        int opposite(int c) {
            return c == 0 ? 0 : prime - c;
        }

        int product(int a, int b) {
            return a * b % prime;
        }

        /** The power prime - 2, which Fermat's theorem makes the inverse. */
        int inverse(int c) {
            int result = 1;
            int power = c;
            for (int rest = prime - 2; rest > 0; rest >>= 1) {
                if ((rest & 1) == 1) {
                    result = product(result, power);
                }
                power = product(power, power);
            }
            return result;
        }
    }

    /** The monomials of the variables up to the highest degree, the least first. */
    private static final class Monomials {
        private final int[] codes = new int[MOST_MONOMIALS];
        private final int[] degrees = new int[MOST_MONOMIALS];
        private final int[] firstOfDegree = new int[GREATEST_DEGREE + 2];
        private final int[] products = new int[MOST_VARIABLES * MOST_MONOMIALS];
        private int variables;
        private int order;
        private int highest;
        private int count;

        void list(int n, int kindOfOrder) {
            variables = n;
            order = kindOfOrder;
            highest = HIGHEST_OF_VARIABLES[n];
            count = 0;
            for (int d = 0; d <= highest; d++) {
                firstOfDegree[d] = count;
                listDegree(d, 0, d, 0);
            }
            firstOfDegree[highest + 1] = count;
            for (int v = 0; v < variables; v++) {
                for (int i = 0; i < count; i++) {
                    products[v * MOST_MONOMIALS + i] = placeOf(codes[i] + unit(v));
                }
            }
        }

        /**
         * Order 1 looks at the first variable first and has small exponents first; order 0 looks at
         * the last variable first and has great exponents first.
         */
        private void listDegree(int degree, int depth, int rest, int code) {
            int variable = order == 1 ? depth : variables - 1 - depth;
            if (depth >= variables - 1) {
                append(code + rest * unit(variable), degree);
                return;
            }
            for (int t = 0; t <= rest; t++) {
                int exponent = order == 1 ? t : rest - t;
                listDegree(degree, depth + 1, rest - exponent, code + exponent * unit(variable));
            }
        }

        private void append(int code, int degree) {
            if (count < MOST_MONOMIALS) {
                codes[count] = code;
                degrees[count] = degree;
                count++;
            }
        }

        /** The place of a monomial that is told by its exponents, or NONE if there is none such. */
        int placeOf(int e) {
            int degree = 0;
            for (int v = 0; v < MOST_VARIABLES; v++) {
                int exponent = exponentIn(e, v);
                if (v >= variables && exponent != 0) {
                    return NONE;
                }
                degree += exponent;
            }
            if (degree > highest) {
                return NONE;
            }
            for (int i = firstOfDegree[degree]; i < firstOfDegree[degree + 1]; i++) {
                if (codes[i] == e) {
                    return i;
                }
            }
            return NONE;
        }

        /** The place of the product with a variable, or NONE if it is above the highest degree. */
        int timesVariable(int place, int variable) {
            return products[variable * MOST_MONOMIALS + place];
        }

        /** The place of the quotient by a variable, or NONE if the variable does not divide it. */
        int byVariable(int place, int variable) {
            int code = codes[place];
            return exponentIn(code, variable) == 0 ? NONE : placeOf(code - unit(variable));
        }

        int degreeOfLeastCommonMultiple(int place, int other) {
            int degree = 0;
            for (int v = 0; v < variables; v++) {
                degree += Math.max(exponentIn(codes[place], v), exponentIn(codes[other], v));
            }
            return degree;
        }

        /** The set of the variables that divide a monomial, a bit for each. */
        int variablesIn(int place) {
            int set = 0;
            for (int v = 0; v < variables; v++) {
                if (exponentIn(codes[place], v) != 0) {
                    set |= 1 << v;
                }
            }
            return set;
        }

        private static int unit(int variable) {
            return 1 << (24 - 8 * variable);
        }

        private static int exponentIn(int code, int variable) {
            return (code >>> (24 - 8 * variable)) & 255;
        }
    }

    /** The generators, each with the place of its leading monomial. */
    private static final class Generators {
        private final int[][] polynomials = new int[MOST_GENERATORS][MOST_MONOMIALS];
        private final int[] tops = new int[MOST_GENERATORS];
        private int count;

        void add(int[] polynomial, int top) {
            if (count < MOST_GENERATORS) {
                System.arraycopy(polynomial, 0, polynomials[count], 0, MOST_MONOMIALS);
                tops[count] = top;
                count++;
            }
        }

        int greatestTop() {
            int greatest = NONE;
            for (int g = 0; g < count; g++) {
                greatest = Math.max(greatest, tops[g]);
            }
            return greatest;
        }
    }

    /**
     * How the rows of the space were had: row i is a factor times its source, which is a generator
     * or a product of an earlier row with a variable, plus numbers times the rows before it.
     */
    private static final class Origins {
        private final int[] sources = new int[MOST_MONOMIALS];
        private final int[] variables = new int[MOST_MONOMIALS];
        private final int[] factors = new int[MOST_MONOMIALS];
        private final int[] numbers = new int[TRIANGLE];

        int numberOf(int row, int earlier) {
            return numbers[startOfLine(row) + earlier];
        }

        void noteNumber(int row, int earlier, int number) {
            numbers[startOfLine(row) + earlier] = number;
        }
    }

    /**
     * The space up to a degree: rows with leading coefficient 1, no two with the same leading
     * monomial, that span it. They stand in the order in which they were had, and are never
     * changed afterwards, so that their origins stay true.
     */
    private static final class Space {
        private final Modulus modulus;
        private final Monomials monomials;
        private final Origins origins = new Origins();
        // The row with a leading monomial is kept at that monomial's line, which has its length.
        private final int[] coefficients = new int[TRIANGLE];
        private final int[] leads = new int[MOST_MONOMIALS];
        private final int[] rowOfLead = new int[MOST_MONOMIALS];
        // How many times each row was taken away when something was reduced last.
        private final int[] taken = new int[MOST_MONOMIALS];
        private final int[] work = new int[MOST_MONOMIALS];
        private int degree = NONE;
        private int size;
        private int count;

        Space(Modulus modulus, Monomials monomials) {
            this.modulus = modulus;
            this.monomials = monomials;
        }

        void forget() {
            degree = NONE;
            size = 0;
            count = 0;
        }

        void span(int toDegree, Generators generators) {
            degree = toDegree;
            size = monomials.firstOfDegree[toDegree + 1];
            count = 0;
            Arrays.fill(rowOfLead, NONE);
            for (int g = 0; g < generators.count; g++) {
                int top = generators.tops[g];
                if (top < size) {
                    System.arraycopy(generators.polynomials[g], 0, work, 0, size);
                    takeIn(top, g, NONE);
                }
            }
            // The rows of lower degree span all of the space that is of lower degree: with their
            // products it has every product.
            for (int row = 0; row < count && row < MOST_MONOMIALS; row++) {
                takeInProducts(row);
            }
        }

        private void takeInProducts(int row) {
            if (monomials.degrees[leads[row]] >= degree) {
                return;
            }
            // A space that is everything already can get no more rows.
            for (int v = 0; v < monomials.variables && count < size; v++) {
                int top = writeProduct(row, v, work);
                takeIn(top, row, v);
            }
        }

        /** Makes a row of what stands in the work row, if the space does not have it yet. */
        private void takeIn(int top, int source, int variable) {
            reduce(work, top);
            int lead = topOf(work, top);
            if (lead == NONE || count >= MOST_MONOMIALS) {
                return;
            }
            int factor = modulus.inverse(work[lead]);
            int start = startOfLine(lead);
            for (int i = 0; i <= lead; i++) {
                coefficients[start + i] = modulus.product(factor, work[i]);
            }
            origins.sources[count] = source;
            origins.variables[count] = variable;
            origins.factors[count] = factor;
            for (int r = 0; r < count; r++) {
                int number = modulus.product(factor, modulus.opposite(taken[r]));
                origins.noteNumber(count, r, number);
            }
            leads[count] = lead;
            rowOfLead[lead] = count;
            count++;
        }

        /** Takes rows away until no leading monomial of the space is left up to a place. */
        void reduce(int[] polynomial, int top) {
            Arrays.fill(taken, 0);
            for (int i = top; i >= 0; i--) {
                int c = polynomial[i];
                if (c != 0 && isLead(i)) {
                    taken[rowOfLead[i]] = c;
                    addRow(polynomial, rowOfLead[i], modulus.opposite(c));
                }
            }
        }

        void addRow(int[] polynomial, int row, int number) {
            int lead = leads[row];
            int start = startOfLine(lead);
            int prime = modulus.prime;
            for (int i = 0; i <= lead; i++) {
                int c = coefficients[start + i];
                if (c != 0) {
                    polynomial[i] = (polynomial[i] + number * c) % prime;
                }
            }
        }

        /** Writes the product of a row of lower degree with a variable: its leading place. */
        int writeProduct(int row, int variable, int[] to) {
            int lead = leads[row];
            int start = startOfLine(lead);
            Arrays.fill(to, 0);
            for (int i = 0; i <= lead; i++) {
                int place = monomials.timesVariable(i, variable);
                if (place != NONE) {
                    to[place] = coefficients[start + i];
                }
            }
            return monomials.timesVariable(lead, variable);
        }

        boolean isLead(int place) {
            return place >= 0 && place < size && rowOfLead[place] != NONE;
        }

        int coefficientOf(int row, int place) {
            return place <= leads[row] ? coefficients[startOfLine(leads[row]) + place] : 0;
        }

        int standardOfDegree(int d) {
            int standards = 0;
            for (int i = monomials.firstOfDegree[d]; i < monomials.firstOfDegree[d + 1]; i++) {
                if (!isLead(i)) {
                    standards++;
                }
            }
            return standards;
        }
    }

    /** The polynomials of the basis, by leading monomials, the least first. */
    private static final class Members {
        private final Monomials monomials;
        private final Space space;
        // Each is kept at the line of its leading monomial, as the space's rows are.
        private final int[] coefficients = new int[TRIANGLE];
        private final int[] leads = new int[MOST_MONOMIALS];
        private final int[] work = new int[MOST_MONOMIALS];
        private int count;
        private boolean complete;

        Members(Monomials monomials, Space space) {
            this.monomials = monomials;
            this.space = space;
        }

        void find(boolean allGeneratorsInside) {
            count = 0;
            for (int i = 0; i < space.size; i++) {
                if (space.isLead(i) && !hasDividingLead(i)) {
                    addReduced(i);
                }
            }
            complete = allGeneratorsInside && allPairsInside();
        }

        /**
         * Products of leading monomials with variables are leading ones too, up to the degree: if
         * any divides this one, then one does that lacks a single variable.
         */
        private boolean hasDividingLead(int place) {
            for (int v = 0; v < monomials.variables; v++) {
                if (space.isLead(monomials.byVariable(place, v))) {
                    return true;
                }
            }
            return false;
        }

        private void addReduced(int lead) {
            Arrays.fill(work, 0);
            space.addRow(work, space.rowOfLead[lead], 1);
            space.reduce(work, lead - 1);
            System.arraycopy(work, 0, coefficients, startOfLine(lead), lead + 1);
            leads[count] = lead;
            count++;
        }

        private boolean allPairsInside() {
            for (int a = 0; a < count; a++) {
                for (int b = 0; b < a; b++) {
                    int degree = monomials.degreeOfLeastCommonMultiple(leads[a], leads[b]);
                    int product = monomials.degrees[leads[a]] + monomials.degrees[leads[b]];
                    if (degree > space.degree && degree != product) {
                        return false;
                    }
                }
            }
            return true;
        }

        int coefficientAt(int k, int place) {
            int lead = leads[k];
            if (place < 0 || place > lead) {
                return 0;
            }
            return coefficients[startOfLine(lead) + place];
        }

        int dimension() {
            int greatest = NONE;
            for (int set = 0; set < 1 << monomials.variables; set++) {
                if (!hasLeadOf(set)) {
                    greatest = Math.max(greatest, Integer.bitCount(set));
                }
            }
            return greatest;
        }

        private boolean hasLeadOf(int set) {
            for (int k = 0; k < count; k++) {
                if ((monomials.variablesIn(leads[k]) & ~set) == 0) {
                    return true;
                }
            }
            return false;
        }
    }

    /**
     * Reckons proofs out. The row of polynomials is: the generators, the space's rows as they were
     * had, and the polynomial that is asked about, as a sum of numbers times those rows.
     */
    private static final class Proof {
        private final Modulus modulus;
        private final Generators generators;
        private final Space space;
        private final int[] line = new int[MOST_MONOMIALS];
        // So many first rows were reckoned out already since the basis was found.
        private int reckoned;

        Proof(Modulus modulus, Generators generators, Space space) {
            this.modulus = modulus;
            this.generators = generators;
            this.space = space;
        }

        void begin() {
            reckoned = 0;
        }

        /** For the polynomial that the space reduced last, as it was before that. */
        boolean reckonsOut(int[] polynomial) {
            Arrays.fill(line, 0);
            int rows = 0;
            for (int r = 0; r < space.count; r++) {
                if (space.taken[r] != 0) {
                    space.addRow(line, r, space.taken[r]);
                    rows = r + 1;
                }
            }
            return isLine(polynomial) && reckonsRows(rows);
        }

        private boolean isLine(int[] polynomial) {
            for (int i = 0; i < MOST_MONOMIALS; i++) {
                if (line[i] != polynomial[i]) {
                    return false;
                }
            }
            return true;
        }

        private boolean reckonsRows(int rows) {
            for (int r = reckoned; r < rows; r++) {
                if (!reckonsRow(r)) {
                    return false;
                }
                reckoned = r + 1;
            }
            return true;
        }

        private boolean reckonsRow(int row) {
            if (!writeSource(row)) {
                return false;
            }
            for (int i = 0; i < space.size; i++) {
                line[i] = modulus.product(space.origins.factors[row], line[i]);
            }
            for (int r = 0; r < row; r++) {
                int number = space.origins.numberOf(row, r);
                if (number != 0) {
                    space.addRow(line, r, number);
                }
            }
            for (int i = 0; i < space.size; i++) {
                if (line[i] != space.coefficientOf(row, i)) {
                    return false;
                }
            }
            return true;
        }

        /** Whether the source is an earlier one, and not above the basis' degree. */
        private boolean writeSource(int row) {
            int source = space.origins.sources[row];
            int variable = space.origins.variables[row];
            if (variable == NONE) {
                if (source >= generators.count || generators.tops[source] >= space.size) {
                    return false;
                }
                System.arraycopy(generators.polynomials[source], 0, line, 0, MOST_MONOMIALS);
                return true;
            }
            int lead = source < row ? space.writeProduct(source, variable, line) : NONE;
            return lead != NONE && lead < space.size;
        }
    }
}
