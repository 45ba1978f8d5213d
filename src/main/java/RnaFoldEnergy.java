/**
 * RNA secondary structure of least free energy by nearest-neighbour loops.
 *
 * A structure is held as an array of partners: entry p is the partner of base p, or NONE.
 * Every question about all structures is answered by walking through them one by one: at
 * 14 bases there are fewer than 2500, so nothing need be kept from one call to the next.
 */
public final class RnaFoldEnergy {
    public static final int FULL = -1;
    public static final int BAD = -2;
    public static final int NONE = -3;

    private static final int MOST_BASES = 14;
    private static final int LEAST_MINIMUM = 2;
    private static final int MOST_MINIMUM = 4;
    private static final int GREATEST_GAP = 7;
    private static final int GREATEST_TERM = 60;
    /** Far above the number of structures that 14 bases can have. */
    private static final int MOST_STEPS = 1000000;

    private static final int A = 0;
    private static final int C = 1;
    private static final int G = 2;
    private static final int U = 3;

    private static final int NO_STRENGTH = -1;
    private static final int STRONG = 0;
    private static final int WEAK = 1;
    private static final int WOBBLE = 2;

    private static final int STACK_STRONG_STRONG = 0;
    private static final int STACK_STRONG_WEAK = 1;
    private static final int STACK_STRONG_WOBBLE = 2;
    private static final int STACK_WEAK_WEAK = 3;
    private static final int STACK_WEAK_WOBBLE = 4;
    private static final int STACK_WOBBLE_WOBBLE = 5;
    private static final int HAIRPIN = 6;
    private static final int HAIRPIN_BASE = 7;
    private static final int BULGE = 8;
    private static final int BULGE_BASE = 9;
    private static final int INTERIOR = 10;
    private static final int INTERIOR_BASE = 11;
    private static final int INTERIOR_SKEW = 12;
    private static final int MULTI = 13;
    private static final int MULTI_PAIR = 14;
    private static final int MULTI_BASE = 15;
    private static final int END = 16;
    private static final int TERMS = 17;

    private final int minimum;
    private int size;
    private final int[] bases = new int[MOST_BASES];
    private final boolean[] blocked = new boolean[MOST_BASES];
    private final int[] terms = new int[TERMS];
    private final int[] trial = new int[MOST_BASES];

    /** The structure that a walk through all structures stands at. */
    private final int[] walk = new int[MOST_BASES];
    /** What the last survey found. */
    private final int[] best = new int[MOST_BASES];
    private int least;
    private int total;

    public RnaFoldEnergy(int minimum) {
        if (minimum < LEAST_MINIMUM) {
            this.minimum = LEAST_MINIMUM;
        } else if (minimum > MOST_MINIMUM) {
            this.minimum = MOST_MINIMUM;
        } else {
            this.minimum = minimum;
        }
        for (int p = 0; p < MOST_BASES; p++) {
            trial[p] = NONE;
        }
        setFirstTerms();
    }

    public int addBase(int base) {
        if (size >= MOST_BASES) {
            return FULL;
        }
        if (base < A || base > U) {
            return BAD;
        }
        bases[size] = base;
        blocked[size] = false;
        size++;
        return size;
    }

    public int dropBase() {
        if (size <= 0) {
            return BAD;
        }
        int last = size - 1;
        separate(trial, last);
        blocked[last] = false;
        size = last;
        return bases[last];
    }

    public int length() {
        return size;
    }

    public boolean block(int i, boolean on) {
        if (!isBase(i)) {
            return false;
        }
        blocked[i] = on;
        if (on) {
            separate(trial, i);
        }
        return true;
    }

    public boolean setEnergy(int which, int value) {
        if (which < 0 || which >= TERMS) {
            return false;
        }
        if (value < -GREATEST_TERM || value > GREATEST_TERM) {
            return false;
        }
        terms[which] = value;
        return true;
    }

    public boolean canPair(int i, int j) {
        if (!isBase(i) || !isBase(j) || i >= j) {
            return false;
        }
        if (j - i - 1 < minimum || blocked[i] || blocked[j]) {
            return false;
        }
        return strength(i, j) != NO_STRENGTH;
    }

    public int leastEnergy() {
        survey();
        return least;
    }

    public int structures() {
        survey();
        return total;
    }

    public int atGap(int k) {
        if (k < 0 || k > GREATEST_GAP) {
            return BAD;
        }
        survey();
        return countWithEnergy(least + k);
    }

    public int partner(int i) {
        if (!isBase(i)) {
            return BAD;
        }
        survey();
        return best[i];
    }

    public boolean needed(int i, int j) {
        if (!canPair(i, j)) {
            return false;
        }
        survey();
        int optima = countWithEnergy(least);
        int having = countWithPair(least, i, j);
        return having == optima;
    }

    public int optimaWith(int i, int j) {
        if (!canPair(i, j)) {
            return 0;
        }
        survey();
        return countWithPair(least, i, j);
    }

    public int trialPair(int i, int j) {
        if (!canPair(i, j)) {
            return BAD;
        }
        if (!fits(trial, i, j)) {
            return NONE;
        }
        join(trial, i, j);
        return countPairs(trial);
    }

    public int trialClear() {
        int taken = countPairs(trial);
        clear(trial);
        return taken;
    }

    public int trialGap() {
        survey();
        int energy = energyOf(trial);
        return energy - least;
    }

    private void setFirstTerms() {
        terms[STACK_STRONG_STRONG] = -33;
        terms[STACK_STRONG_WEAK] = -22;
        terms[STACK_STRONG_WOBBLE] = -15;
        terms[STACK_WEAK_WEAK] = -11;
        terms[STACK_WEAK_WOBBLE] = -9;
        terms[STACK_WOBBLE_WOBBLE] = -5;
        terms[HAIRPIN] = 38;
        terms[HAIRPIN_BASE] = 3;
        terms[BULGE] = 28;
        terms[BULGE_BASE] = 4;
        terms[INTERIOR] = 12;
        terms[INTERIOR_BASE] = 3;
        terms[INTERIOR_SKEW] = 5;
        terms[MULTI] = 34;
        terms[MULTI_PAIR] = 4;
        terms[MULTI_BASE] = 0;
        terms[END] = 5;
    }

    private boolean isBase(int i) {
        return i >= 0 && i < size;
    }

    private int strength(int i, int j) {
        int low = bases[i] < bases[j] ? bases[i] : bases[j];
        int high = bases[i] < bases[j] ? bases[j] : bases[i];
        if (low == C && high == G) {
            return STRONG;
        }
        if (low == A && high == U) {
            return WEAK;
        }
        if (low == G && high == U) {
            return WOBBLE;
        }
        return NO_STRENGTH;
    }

    private void clear(int[] mates) {
        for (int p = 0; p < MOST_BASES; p++) {
            mates[p] = NONE;
        }
    }

    private void join(int[] mates, int i, int j) {
        mates[i] = j;
        mates[j] = i;
    }

    private void separate(int[] mates, int i) {
        int j = mates[i];
        if (j >= 0) {
            mates[i] = NONE;
            mates[j] = NONE;
        }
    }

    private int countPairs(int[] mates) {
        int pairs = 0;
        for (int p = 0; p < size; p++) {
            if (mates[p] > p) {
                pairs++;
            }
        }
        return pairs;
    }

    /** Whether a pair (i, j) that can pair leaves the structure a structure. */
    private boolean fits(int[] mates, int i, int j) {
        if (mates[i] != NONE || mates[j] != NONE) {
            return false;
        }
        for (int p = i + 1; p < j; p++) {
            int q = mates[p];
            if (q != NONE && (q < i || q > j)) {
                return false;
            }
        }
        return true;
    }

    private void survey() {
        least = 0;
        total = 0;
        clear(walk);
        boolean more = true;
        for (int step = 0; more && step < MOST_STEPS; step++) {
            int energy = energyOf(walk);
            // The walk goes from the worse to the better, so an equal one that comes later wins.
            if (energy <= least) {
                least = energy;
                copyWalkToBest();
            }
            total++;
            more = stepOn();
        }
    }

    private void copyWalkToBest() {
        for (int p = 0; p < MOST_BASES; p++) {
            best[p] = walk[p];
        }
    }

    private int countWithEnergy(int wanted) {
        int count = 0;
        clear(walk);
        boolean more = true;
        for (int step = 0; more && step < MOST_STEPS; step++) {
            int energy = energyOf(walk);
            if (energy == wanted) {
                count++;
            }
            more = stepOn();
        }
        return count;
    }

    private int countWithPair(int wanted, int i, int j) {
        int count = 0;
        clear(walk);
        boolean more = true;
        for (int step = 0; more && step < MOST_STEPS; step++) {
            if (walk[i] == j) {
                int energy = energyOf(walk);
                if (energy == wanted) {
                    count++;
                }
            }
            more = stepOn();
        }
        return count;
    }

    /**
     * Takes the walk to its next structure; false if it stood at the last one. The bases are
     * like the digits of a counter, the last base turning fastest; each is at first unpaired
     * and then has its partners above it from the greatest to the smallest.
     */
    private boolean stepOn() {
        for (int p = size - 1; p >= 0; p--) {
            int now = walk[p];
            // A base whose partner lies below it is no digit: that partner's choice settles it.
            if (now == NONE || now > p) {
                int above = now == NONE ? size : now;
                separate(walk, p);
                int next = nextPartner(p, above);
                if (next != NONE) {
                    join(walk, p, next);
                    return true;
                }
            }
        }
        return false;
    }

    private int nextPartner(int p, int above) {
        for (int q = above - 1; q > p; q--) {
            if (canPair(p, q) && fits(walk, p, q)) {
                return q;
            }
        }
        return NONE;
    }

    private int energyOf(int[] mates) {
        int energy = 0;
        int outside = 0;
        for (int i = 0; i < size; i++) {
            int j = mates[i];
            if (j > i) {
                energy += loopEnergy(mates, i, j);
                if (i >= outside) {
                    energy += endEnergy(i, j);
                    outside = j + 1;
                }
            }
        }
        return energy;
    }

    private int loopEnergy(int[] mates, int i, int j) {
        int inside = 0;
        int unpaired = 0;
        int ends = endEnergy(i, j);
        int k = i;
        int passed = i + 1;
        for (int p = i + 1; p < j; p++) {
            if (p >= passed) {
                if (mates[p] > p) {
                    inside++;
                    ends += endEnergy(p, mates[p]);
                    k = p;
                    passed = mates[p] + 1;
                } else {
                    unpaired++;
                }
            }
        }
        if (inside == 0) {
            return terms[HAIRPIN] + terms[HAIRPIN_BASE] * unpaired + ends;
        }
        if (inside == 1) {
            return innerLoopEnergy(i, j, k, mates[k], ends);
        }
        return terms[MULTI] + terms[MULTI_PAIR] * (inside + 1) + terms[MULTI_BASE] * unpaired + ends;
    }

    /** The loop of a pair (i, j) that has just the pair (k, l) directly inside. */
    private int innerLoopEnergy(int i, int j, int k, int l, int ends) {
        int x = k - i - 1;
        int y = j - l - 1;
        if (x == 0 && y == 0) {
            int outer = strength(i, j);
            int inner = strength(k, l);
            return stackEnergy(outer, inner);
        }
        if (x == 0 || y == 0) {
            return terms[BULGE] + terms[BULGE_BASE] * (x + y) + ends;
        }
        int skew = x > y ? x - y : y - x;
        return terms[INTERIOR] + terms[INTERIOR_BASE] * (x + y) + terms[INTERIOR_SKEW] * skew + ends;
    }

    private int stackEnergy(int outer, int inner) {
        int low = outer < inner ? outer : inner;
        int high = outer < inner ? inner : outer;
        if (low == STRONG) {
            if (high == STRONG) {
                return terms[STACK_STRONG_STRONG];
            }
            return high == WEAK ? terms[STACK_STRONG_WEAK] : terms[STACK_STRONG_WOBBLE];
        }
        if (low == WEAK) {
            return high == WEAK ? terms[STACK_WEAK_WEAK] : terms[STACK_WEAK_WOBBLE];
        }
        return terms[STACK_WOBBLE_WOBBLE];
    }

    private int endEnergy(int i, int j) {
        return strength(i, j) == STRONG ? 0 : terms[END];
    }
}
