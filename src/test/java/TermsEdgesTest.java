/**
 * The edges that the document names under 'Terms', one method for each sentence, which stands
 * above it: what holds at the edge, and what holds just beyond it.
 */
public final class TermsEdgesTest {
    private static final int FULL = RnaFoldEnergy.FULL;
    private static final int BAD = RnaFoldEnergy.BAD;
    private static final int NONE = RnaFoldEnergy.NONE;

    private static final Check CHECK = new Check();

    public static void main(String[] args) {
        noBases();
        fourteenBases();
        numberedFromZero();
        fourBases();
        leastNumberInside();
        neitherIsBlocked();
        eitherOrder();
        noBaseInTwoPairs();
        noCrossing();
        emptySetIsAStructure();
        emptyStructureHasEnergyZero();
        firstEnergyTerms();
        bestHasLeastEnergy();
        comparedAtTheLowestBase();
        smallerPartnerIsBetter();
        unpairedIsGreaterThanAll();
        trialIsAlwaysAStructure();
        lastPromisedCall();
        CHECK.finish();
    }

    private static RnaFoldEnergy withoutEnergy(int minimum, String letters) {
        RnaFoldEnergy fold = Sequences.make(minimum, letters);
        Sequences.setAll(fold, 0);
        return fold;
    }

    private static void best(String at, RnaFoldEnergy fold, String want) {
        CHECK.due(at, Sequences.best(fold), want);
    }

    /** "A sequence has n bases (0 to 14)": none. */
    private static void noBases() {
        RnaFoldEnergy fold = new RnaFoldEnergy(2);
        CHECK.due("no base: length()", fold.length(), 0);
        CHECK.due("no base: leastEnergy()", fold.leastEnergy(), 0);
        CHECK.due("no base: structures()", fold.structures(), 1);
        CHECK.due("no base: atGap(0)", fold.atGap(0), 1);
        for (int k = 1; k <= 7; k++) {
            CHECK.due("no base: atGap(" + k + ")", fold.atGap(k), 0);
        }
        CHECK.due("no base: partner(0)", fold.partner(0), BAD);
        CHECK.due("no base: canPair(0, 3)", fold.canPair(0, 3), false);
        CHECK.due("no base: needed(0, 3)", fold.needed(0, 3), false);
        CHECK.due("no base: optimaWith(0, 3)", fold.optimaWith(0, 3), 0);
        CHECK.due("no base: trialPair(0, 3)", fold.trialPair(0, 3), BAD);
        CHECK.due("no base: trialClear()", fold.trialClear(), 0);
        CHECK.due("no base: trialGap()", fold.trialGap(), 0);
        CHECK.due("no base: block(0, true)", fold.block(0, true), false);
        CHECK.due("no base: dropBase()", fold.dropBase(), BAD);
    }

    /** "A sequence has n bases (0 to 14)": as many as there can be, and one more. */
    private static void fourteenBases() {
        RnaFoldEnergy fold = withoutEnergy(2, "GAAAAAAAAAAAA");
        CHECK.due("the 14th base", fold.addBase(1), 14);
        CHECK.due("the 15th base", fold.addBase(1), FULL);
        CHECK.due("14 bases: length()", fold.length(), 14);
        CHECK.due("14 bases: canPair(0, 13)", fold.canPair(0, 13), true);
        CHECK.due("14 bases: canPair(0, 14)", fold.canPair(0, 14), false);
        CHECK.due("14 bases: structures()", fold.structures(), 2);
        fold.setEnergy(7, -60);
        CHECK.due("14 bases: leastEnergy()", fold.leastEnergy(), -60 * 12);
        CHECK.due("14 bases: atGap(0)", fold.atGap(0), 1);
        CHECK.due("14 bases: partner(0)", fold.partner(0), 13);
        CHECK.due("14 bases: partner(13)", fold.partner(13), 0);
        CHECK.due("14 bases: partner(14)", fold.partner(14), BAD);
        CHECK.due("14 bases: needed(0, 13)", fold.needed(0, 13), true);
        CHECK.due("14 bases: optimaWith(0, 13)", fold.optimaWith(0, 13), 1);
        CHECK.due("14 bases: trialPair(0, 13)", fold.trialPair(0, 13), 1);
        CHECK.due("14 bases: trialGap()", fold.trialGap(), 0);
        CHECK.due("14 bases: block(14, true)", fold.block(14, true), false);
        CHECK.due("14 bases: block(13, true)", fold.block(13, true), true);
        CHECK.due("14 bases: trialClear()", fold.trialClear(), 0);
        CHECK.due("14 bases: dropBase()", fold.dropBase(), 1);
        CHECK.due("13 bases: addBase(2)", fold.addBase(2), 14);
    }

    /** "numbered 0 to n-1": of each number of bases the first and the last are there. */
    private static void numberedFromZero() {
        RnaFoldEnergy fold = new RnaFoldEnergy(2);
        for (int n = 1; n <= 14; n++) {
            fold.addBase(0);
            CHECK.due(n + " bases: partner(-1)", fold.partner(-1), BAD);
            CHECK.due(n + " bases: partner(0)", fold.partner(0), NONE);
            CHECK.due(n + " bases: partner(" + (n - 1) + ")", fold.partner(n - 1), NONE);
            CHECK.due(n + " bases: partner(" + n + ")", fold.partner(n), BAD);
        }
    }

    /** "each A (0), C (1), G (2) or U (3)". */
    private static void fourBases() {
        RnaFoldEnergy fold = new RnaFoldEnergy(2);
        int[] answers = {BAD, 1, 2, 3, 4, BAD};
        for (int base = -1; base <= 4; base++) {
            CHECK.due("addBase(" + base + ")", fold.addBase(base), answers[base + 1]);
        }
        for (int base = 3; base >= 0; base--) {
            CHECK.due("dropBase()", fold.dropBase(), base);
        }
    }

    /** "j - i - 1 >= m (m the least number of bases inside a pair)". */
    private static void leastNumberInside() {
        for (int m = 2; m <= 4; m++) {
            String at = "m = " + m + ": ";
            // Three bases before the pair: the distance counts, not the number of the base.
            RnaFoldEnergy fold = Sequences.make(m, "AAAG" + "A".repeat(m) + "C");
            CHECK.due(at + "canPair, m inside", fold.canPair(3, m + 4), true);
            CHECK.due(at + "structures, m inside", fold.structures(), 2);
            CHECK.due(at + "trialPair, m inside", fold.trialPair(3, m + 4), 1);
            fold = Sequences.make(m, "AAAG" + "A".repeat(m - 1) + "C");
            CHECK.due(at + "canPair, m - 1 inside", fold.canPair(3, m + 3), false);
            CHECK.due(at + "structures, m - 1 inside", fold.structures(), 1);
            CHECK.due(at + "trialPair, m - 1 inside", fold.trialPair(3, m + 3), BAD);
            fold = Sequences.make(m, "AAAG" + "A".repeat(m + 1) + "C");
            CHECK.due(at + "canPair, m + 1 inside", fold.canPair(3, m + 5), true);
        }
    }

    /** "neither is blocked": each of the two alone, both, and a base between them. */
    private static void neitherIsBlocked() {
        RnaFoldEnergy fold = Sequences.make(2, "GAAC");
        fold.block(1, true);
        fold.block(2, true);
        CHECK.due("the bases between are blocked", fold.canPair(0, 3), true);
        fold.block(0, true);
        CHECK.due("the lower one is blocked", fold.canPair(0, 3), false);
        CHECK.due("structures then", fold.structures(), 1);
        fold.block(3, true);
        CHECK.due("both are blocked", fold.canPair(0, 3), false);
        fold.block(0, false);
        CHECK.due("the upper one is blocked", fold.canPair(0, 3), false);
        CHECK.due("structures then", fold.structures(), 1);
        fold.block(3, false);
        CHECK.due("neither is blocked any more", fold.canPair(0, 3), true);
        CHECK.due("structures then", fold.structures(), 2);
    }

    /** "in either order, G and C (a STRONG pair), A and U (WEAK) or G and U (WOBBLE)". */
    private static void eitherOrder() {
        String letters = "ACGU";
        String strong = " GC CG ";
        String others = " AU UA GU UG ";
        for (int b = 0; b < 16; b++) {
            String two = "" + letters.charAt(b / 4) + letters.charAt(b % 4);
            boolean isStrong = strong.contains(" " + two + " ");
            boolean can = isStrong || others.contains(" " + two + " ");
            // A and A inside, which pair with neither end at this distance.
            RnaFoldEnergy fold = withoutEnergy(2, two.charAt(0) + "AA" + two.charAt(1));
            fold.setEnergy(16, 1);
            CHECK.due(two + " canPair", fold.canPair(0, 3), can);
            CHECK.due(two + " structures", fold.structures(), can ? 2 : 1);
            CHECK.due(two + " trialPair", fold.trialPair(0, 3), can ? 1 : BAD);
            CHECK.due(two + " ends", fold.trialGap(), can && !isStrong ? 2 : 0);
        }
    }

    /** "no base is in two pairs": a base that is the upper one of one pair and the lower one of another. */
    private static void noBaseInTwoPairs() {
        CHECK.due("(0, 3) and (3, 6) share base 3", Sequences.make(2, "GAACAAG").structures(), 3);
        CHECK.due("(0, 3) and (0, 4) share base 0", Sequences.make(2, "GAACC").structures(), 3);
        CHECK.due("(0, 4) and (1, 4) share base 4", Sequences.make(2, "GGAAC").structures(), 3);
        // (0, 3), (4, 7), both, and (0, 7).
        CHECK.due("(0, 3) and (4, 7) share none", Sequences.make(2, "GAACGAAC").structures(), 5);
    }

    /** "no two pairs (i, j), (k, l) have i < k < j < l". */
    private static void noCrossing() {
        RnaFoldEnergy fold = Sequences.make(2, "GAGCAC");
        fold.trialPair(0, 3);
        CHECK.due("k = j - 1: (2, 5) crosses (0, 3)", fold.trialPair(2, 5), NONE);
        fold = Sequences.make(2, "GAACAAG");
        fold.trialPair(0, 3);
        CHECK.due("k = j: (3, 6) shares a base with (0, 3)", fold.trialPair(3, 6), NONE);
        fold = Sequences.make(2, "GAACGAAC");
        fold.trialPair(0, 3);
        CHECK.due("k = j + 1: (4, 7) stands beside (0, 3)", fold.trialPair(4, 7), 2);
        fold = Sequences.make(2, "GGAACCC");
        fold.trialPair(0, 5);
        CHECK.due("l = j + 1: (1, 6) crosses (0, 5)", fold.trialPair(1, 6), NONE);
        CHECK.due("l = j: (1, 5) shares a base with (0, 5)", fold.trialPair(1, 5), NONE);
        CHECK.due("l = j - 1: (1, 4) lies in (0, 5)", fold.trialPair(1, 4), 2);
        fold = Sequences.make(2, "GGGAACC");
        fold.trialPair(1, 6);
        CHECK.due("i = k - 1: (0, 5) crosses (1, 6)", fold.trialPair(0, 5), NONE);
        CHECK.due("i = k: (1, 5) shares a base with (1, 6)", fold.trialPair(1, 5), NONE);
        CHECK.due("i = k + 1: (2, 5) lies in (1, 6)", fold.trialPair(2, 5), 2);
        // Nothing, the four pairs alone, and (0, 5) with (1, 4); not (0, 4) with (1, 5).
        CHECK.due("structures without those that cross", Sequences.make(2, "GGAACC").structures(), 6);
    }

    /** "The empty set is a structure." */
    private static void emptySetIsAStructure() {
        for (int n = 0; n <= 14; n++) {
            RnaFoldEnergy fold = Sequences.make(2, "A".repeat(n));
            CHECK.due(n + " bases that can't pair: structures()", fold.structures(), 1);
            CHECK.due(n + " bases that can't pair: atGap(0)", fold.atGap(0), 1);
        }
        CHECK.due("one pair, and the empty set", Sequences.make(2, "GAAC").structures(), 2);
        CHECK.due("the empty set as trial", Sequences.make(2, "GAAC").trialGap(), 0);
    }

    /** "the empty structure has energy 0", whatever the terms are. */
    private static void emptyStructureHasEnergyZero() {
        int[] values = {-60, -1, 0, 1, 60};
        for (int value : values) {
            RnaFoldEnergy fold = Sequences.make(2, "AAAAAA");
            Sequences.setAll(fold, value);
            CHECK.due("all terms " + value + ": leastEnergy()", fold.leastEnergy(), 0);
            CHECK.due("all terms " + value + ": trialGap()", fold.trialGap(), 0);
            fold = Sequences.make(2, "GAAC");
            Sequences.setAll(fold, value);
            int hairpin = value + 2 * value;
            CHECK.due("all terms " + value + ": leastEnergy() of GAAC", fold.leastEnergy(), Math.min(0, hairpin));
            CHECK.due("all terms " + value + ": trialGap() of GAAC", fold.trialGap(), Math.max(0, -hairpin));
        }
    }

    /** "in the beginning they are -33, -22, -15, -11, -9, -5, 38, 3, 28, 4, 12, 3, 5, 34, 4, 0, 5". */
    private static void firstEnergyTerms() {
        int[] first = {-33, -22, -15, -11, -9, -5, 38, 3, 28, 4, 12, 3, 5, 34, 4, 0, 5};
        String untouched = Witness.of(() -> Sequences.make(2, "GAAC"));
        for (int which = 0; which <= 16; which++) {
            int term = which;
            for (int off = -1; off <= 1; off++) {
                int value = first[which] + off;
                String set = Witness.of(() -> {
                    RnaFoldEnergy fold = Sequences.make(2, "GAAC");
                    fold.setEnergy(term, value);
                    return fold;
                });
                CHECK.due("E" + which + " set to " + value + " is as at first", set.equals(untouched), off == 0);
            }
        }
    }

    /** "THE BEST structure is one of least energy": a pair just above, at and just below 0. */
    private static void bestHasLeastEnergy() {
        RnaFoldEnergy fold = withoutEnergy(2, "GAAC");
        fold.setEnergy(6, 1);
        best("the pair has energy 1", fold, "....");
        fold.setEnergy(6, 0);
        best("the pair has energy 0", fold, "(..)");
        fold.setEnergy(6, -1);
        best("the pair has energy -1", fold, "(..)");
        fold = withoutEnergy(2, "GAACC");
        fold.setEnergy(7, -1);
        best("the greater partner has the lesser energy", fold, "(...)");
        fold = withoutEnergy(2, "GGAACC");
        fold.setEnergy(6, -1);
        fold.setEnergy(7, 1);
        // All pairs have energy 1 or more.
        best("unpaired has the lesser energy", fold, "......");
    }

    /** "among several, structures are compared at the lowest base whose partners differ in the two". */
    private static void comparedAtTheLowestBase() {
        best("base 0 decides, though base 1 is worse then", withoutEnergy(2, "GGAACC"), "(...).");
        // A can pair with the one U alone, so that base 1 is the first to have a choice.
        best("equal at base 0, base 1 decides", withoutEnergy(2, "AGGAACCCCCCCCU"), "((...).......)");
        best("equal at bases 0 to 4, base 5 decides", withoutEnergy(2, "GAACCGAACC"), "(..).(..).");
        best("the last four bases decide", withoutEnergy(2, "AAAAAAAAAAGAAC"), "..........(..)");
    }

    /** "the one whose base there has the smaller partner is better". */
    private static void smallerPartnerIsBetter() {
        best("3 before 4", withoutEnergy(2, "GAACC"), "(..).");
        best("3 before 13", withoutEnergy(2, "GAACAAAAAAAAAC"), "(..)..........");
        best("12 before 13", withoutEnergy(2, "GAAAAAAAAAAACC"), "(...........).");
        RnaFoldEnergy fold = withoutEnergy(2, "GAACC");
        fold.block(3, true);
        best("4 if 3 is blocked", fold, "(...)");
    }

    /** "being unpaired counts as a partner greater than all". */
    private static void unpairedIsGreaterThanAll() {
        best("13, the greatest partner, before unpaired", withoutEnergy(2, "GAAAAAAAAAAAAC"), "(............)");
        // (0, 13) with (1, 4) is a bulge: base 0 unpaired leaves room for a smaller partner of base 1.
        RnaFoldEnergy fold = withoutEnergy(2, "AGAACAAAAAAAAU");
        fold.setEnergy(8, 1);
        CHECK.due("(1, 4) alone, and with one of (5, 13) to (10, 13)", fold.optimaWith(1, 4), 7);
        best("base 0 paired, though base 1 is unpaired then", fold, "(............)");
        fold.setEnergy(8, 0);
        best("both paired, the bulge being as good", fold, "((..)........)");
    }

    /** "THE TRIAL is one further set of pairs that the user builds; it is always a structure." */
    private static void trialIsAlwaysAStructure() {
        RnaFoldEnergy fold = Sequences.make(2, "GGGGGGAACCCCCC");
        CHECK.due("the most pairs that there can be", Sequences.buildTrial(fold, "((((((..))))))"), 6);
        fold.block(2, true);
        CHECK.due("a pair in the middle is taken away", Sequences.trialEnergy(fold), 3 * -33 + 12 + 3 * 2 + 38 + 3 * 2);
        fold.block(2, false);
        CHECK.due("it fits again", fold.trialPair(2, 11), 6);
        fold.dropBase();
        CHECK.due("the outermost pair goes with its base", Sequences.trialEnergy(fold), 4 * -33 + 38 + 3 * 2);
        CHECK.due("the others are left", fold.trialClear(), 5);
    }

    /** "An object is used for at most 512 calls after it has been made": the 512th still holds. */
    private static void lastPromisedCall() {
        RnaFoldEnergy fold = Sequences.make(3, "GGGGAAAACCCC");
        for (int call = 13; call <= 511; call++) {
            CHECK.due("call " + call + " setEnergy", fold.setEnergy(6, call == 511 ? 38 : call % 60), true);
        }
        CHECK.due("call 512 leastEnergy()", fold.leastEnergy(), -49);
        fold = new RnaFoldEnergy(2);
        for (int call = 1; call <= 510; call += 2) {
            CHECK.due("call " + call + " addBase(2)", fold.addBase(2), 1);
            CHECK.due("call " + (call + 1) + " dropBase()", fold.dropBase(), 2);
        }
        CHECK.due("call 511 addBase(3)", fold.addBase(3), 1);
        CHECK.due("call 512 dropBase()", fold.dropBase(), 3);
        fold = Sequences.make(2, "GAAC");
        for (int call = 5; call <= 510; call += 2) {
            CHECK.due("call " + call + " trialPair(0, 3)", fold.trialPair(0, 3), 1);
            CHECK.due("call " + (call + 1) + " trialClear()", fold.trialClear(), 1);
        }
        CHECK.due("call 511 trialPair(0, 3)", fold.trialPair(0, 3), 1);
        CHECK.due("call 512 trialGap()", fold.trialGap(), 38 + 3 * 2);
    }
}
