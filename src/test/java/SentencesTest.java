/**
 * The sentences of the document that name no edge of their own, one method for each, with the
 * sentence above it. The edges are in TermsEdgesTest, EnergyTermsTest and PromiseEdgesTest.
 */
public final class SentencesTest {
    /** All different, so that a wrong term or a wrong count shows in the sum. */
    private static final int[] VALUES = {-59, 53, -47, 43, -41, 37, -31, 29, -23, 19, -17, 13, -11, 7, -5, 3, 58};

    private static final Check CHECK = new Check();

    public static void main(String[] args) {
        structureHasPairsThatCanPair();
        structureIsASet();
        baseInNoPairIsUnpaired();
        everyPairClosesOneLoop();
        unpairedOfALoop();
        stackInEitherOrder();
        endOfAPair();
        energyIsTheSum();
        partnersTellTheBest();
        CHECK.finish();
    }

    private static int e(int which) {
        return VALUES[which];
    }

    /** The energy of a structure under VALUES. */
    private static int energy(String letters, String brackets) {
        RnaFoldEnergy fold = Sequences.make(2, letters);
        setValues(fold);
        long pairs = brackets.chars().filter(c -> c == '(').count();
        CHECK.due(letters + " " + brackets + " trial pairs", Sequences.buildTrial(fold, brackets), pairs);
        return Sequences.trialEnergy(fold);
    }

    private static void setValues(RnaFoldEnergy fold) {
        for (int which = 0; which <= 16; which++) {
            fold.setEnergy(which, VALUES[which]);
        }
    }

    /** "A STRUCTURE is a set of pairs (i, j), i < j, that can pair". */
    private static void structureHasPairsThatCanPair() {
        RnaFoldEnergy fold = Sequences.make(2, "GGAACC");
        CHECK.due("structures()", fold.structures(), 6);
        fold.block(0, true);
        CHECK.due("structures(), base 0 is blocked", fold.structures(), 3);
        fold.block(1, true);
        CHECK.due("structures(), no pair is left", fold.structures(), 1);
        CHECK.due("too near", Sequences.make(4, "GGAACC").structures(), 2);
        CHECK.due("neither strong, weak nor wobble", Sequences.make(2, "GGAAGG").structures(), 1);
    }

    /** "A STRUCTURE is a set": the order in which the trial's pairs are added does not matter. */
    private static void structureIsASet() {
        int[][] pairs = {{0, 13}, {1, 6}, {2, 5}, {7, 12}};
        int due = energy("GGGAACCGAAAACC", "(((..))(....))");
        for (int order = 0; order < 256; order++) {
            int[] turn = {order & 3, order >> 2 & 3, order >> 4 & 3, order >> 6};
            if ((1 << turn[0] | 1 << turn[1] | 1 << turn[2] | 1 << turn[3]) != 15) {
                continue;
            }
            RnaFoldEnergy fold = Sequences.make(2, "GGGAACCGAAAACC");
            setValues(fold);
            for (int t = 0; t < 4; t++) {
                CHECK.due("order " + order, fold.trialPair(pairs[turn[t]][0], pairs[turn[t]][1]), t + 1);
            }
            CHECK.due("order " + order + ", the energy", Sequences.trialEnergy(fold), due);
        }
    }

    /** "A base in no pair is unpaired": also one that is blocked, or that can pair and doesn't. */
    private static void baseInNoPairIsUnpaired() {
        String[][] loops = {{"GAAAC", "(...)"}, {"GAGAACC", "(.(..))"}, {"GAAGAACAC", "(..(..).)"},
            {"GAGAACAGAACAC", "(.(..).(..).)"}};
        for (String[] loop : loops) {
            int due = energy(loop[0], loop[1]);
            RnaFoldEnergy fold = Sequences.make(2, loop[0]);
            setValues(fold);
            Sequences.buildTrial(fold, loop[1]);
            for (int p = 0; p < loop[0].length(); p++) {
                if (loop[1].charAt(p) == '.') {
                    fold.block(p, true);
                }
            }
            CHECK.due(loop[1] + " with its unpaired bases blocked", Sequences.trialEnergy(fold), due);
        }
        CHECK.due("unpaired bases that can pair", energy("GGGCCCC", "(.....)"), e(6) + e(7) * 5);
        RnaFoldEnergy fold = Sequences.make(2, "GAACA");
        fold.setEnergy(6, -60);
        fold.block(4, true);
        CHECK.due("partner of a blocked base", fold.partner(4), RnaFoldEnergy.NONE);
    }

    /** "Every pair (i, j) closes one loop": as many loops as pairs. */
    private static void everyPairClosesOneLoop() {
        // Strong pairs alone: each loop has just one of these terms, once.
        int[] onceInALoop = {0, 6, 8, 10, 13};
        String[][] structures = {{"GGGGGGAACCCCCC", "((((((..))))))"}, {"GAAAACAAAGAAAC", "(....)...(...)"},
            {"GGAAAACCAGAAAC", "((....)).(...)"}, {"GAGAAAACACGAAC", "(.(....).)(..)"},
            {"GGAACGAACAAAAC", "((..)(..)....)"}, {"GAGAAAACCAAAAA", "(.(....))....."}};
        for (String[] structure : structures) {
            RnaFoldEnergy fold = Sequences.make(2, structure[0]);
            Sequences.setAll(fold, 0);
            for (int which : onceInALoop) {
                fold.setEnergy(which, 1);
            }
            int pairs = Sequences.buildTrial(fold, structure[1]);
            CHECK.due(structure[1], fold.trialGap(), pairs);
        }
    }

    /** "u the number of unpaired bases p with i < p < j such that no pair (k, l) directly inside (i, j) has k < p < l". */
    private static void unpairedOfALoop() {
        int hairpin = e(6) + e(7) * 2;
        CHECK.due("what lies outside counts nowhere", energy("AAAAAGAACAAAAA", ".....(..)....."), hairpin);
        CHECK.due("what lies between two outermost pairs counts nowhere",
            energy("GAACAAAAAAGAAC", "(..)......(..)"), 2 * hairpin);
        CHECK.due("a hairpin's bases count in it alone", energy("GGAAAAAAAAAAAC", "(............)"), e(6) + e(7) * 12);
        CHECK.due("not in the bulge around it",
            energy("GAGAAAAAAAAACC", "(.(.........))"), e(8) + e(9) + e(6) + e(7) * 9);
        CHECK.due("not in the multiloop around it",
            energy("GAGAACAGAAAACC", "(.(..).(....))"), e(13) + e(14) * 3 + e(15) * 2 + 2 * e(6) + e(7) * 6);
        CHECK.due("nor two loops farther out", energy("GAGAGAACACC", "(.(.(..).))"),
            e(8) + e(9) + e(10) + e(11) * 2 + hairpin);
    }

    /** "Energy by the two pairs' strengths, in either order": all 36 stacks of two pairs. */
    private static void stackInEitherOrder() {
        String[] twos = {"GC", "CG", "AU", "UA", "GU", "UG"};
        int[][] term = {{0, 1, 2}, {1, 3, 4}, {2, 4, 5}};
        for (int outer = 0; outer < 6; outer++) {
            for (int inner = 0; inner < 6; inner++) {
                String letters = "" + twos[outer].charAt(0) + twos[inner].charAt(0) + "AA"
                    + twos[inner].charAt(1) + twos[outer].charAt(1);
                int ends = (outer >= 2 ? 1 : 0) + (inner >= 2 ? 1 : 0);
                CHECK.due(letters, energy(letters, "((..))"),
                    e(term[outer / 2][inner / 2]) + e(6) + e(7) * 2 + e(16) * ends);
            }
        }
    }

    /** "end is E16 for a weak or wobble pair and 0 for a strong one": in every loop, for each of its pairs. */
    private static void endOfAPair() {
        String[] twos = {"GC", "CG", "AU", "UA", "GU", "UG"};
        int hairpin = e(6) + e(7) * 2;
        for (int outer = 0; outer < 6; outer++) {
            int out = outer >= 2 ? e(16) : 0;
            char i = twos[outer].charAt(0);
            char j = twos[outer].charAt(1);
            CHECK.due(i + " hairpin " + j, energy(i + "AA" + j, "(..)"), hairpin + 2 * out);
            for (int inner = 0; inner < 6; inner++) {
                int in = inner >= 2 ? e(16) : 0;
                String inside = twos[inner].charAt(0) + "AA" + twos[inner].charAt(1);
                String at = i + " " + inside + " " + j;
                CHECK.due(at + " bulge", energy(i + "A" + inside + j, "(.(..))"),
                    hairpin + in + e(8) + e(9) + out + in + out);
                CHECK.due(at + " interior loop", energy(i + "A" + inside + "A" + j, "(.(..).)"),
                    hairpin + in + e(10) + e(11) * 2 + out + in + out);
                CHECK.due(at + " multiloop", energy(i + inside + "GAAC" + j, "((..)(..))"),
                    hairpin + in + hairpin + e(13) + e(14) * 3 + out + in + out);
                CHECK.due(at + " multiloop, the other way", energy(i + "GAAC" + inside + j, "((..)(..))"),
                    hairpin + hairpin + in + e(13) + e(14) * 3 + out + in + out);
            }
        }
    }

    /** "The energy of a structure is the sum of all of these": of its loops, and of the ends of its outermost pairs. */
    private static void energyIsTheSum() {
        int hairpin = e(6) + e(7) * 2;
        CHECK.due("two hairpins side by side", energy("AAAUAAGAAC", "(..)..(..)"), hairpin + e(16) + hairpin + e(16));
        CHECK.due("a stack, a bulge, a hairpin", energy("GGAGAAUCCC", "((.(..)))."),
            e(0) + e(8) + e(9) + e(16) + hairpin + e(16));
        CHECK.due("a stack, an interior loop, a stack, a hairpin", energy("GAAGUAAGCAUC", "((.((..)).))"),
            e(1) + e(10) + e(11) * 2 + e(16) + e(2) + hairpin + e(16));
        CHECK.due("a multiloop, a stack in it, two hairpins", energy("GGGAACCGAAAACC", "(((..))(....))"),
            e(13) + e(14) * 3 + e(0) + hairpin + e(6) + e(7) * 4);
    }

    /** 11: "The partner of base i in the best structure": what partner() tells is a structure, and one of least energy. */
    private static void partnersTellTheBest() {
        String[] sequences = {"GGGGAAAACCCC", "GGAACGAACC", "GUGUAAGCGCAUAC", "GGGGGGAACCCCCC", "AAUUGGCCAAUUGG"};
        for (String letters : sequences) {
            for (int hairpin = -60; hairpin <= 60; hairpin += 20) {
                RnaFoldEnergy fold = Sequences.make(2, letters);
                fold.setEnergy(6, hairpin);
                int pairs = 0;
                for (int i = 0; i < letters.length(); i++) {
                    int j = fold.partner(i);
                    if (j > i) {
                        pairs++;
                        CHECK.due(letters + " partner(" + j + ")", fold.partner(j), i);
                        CHECK.due(letters + " trialPair(" + i + ", " + j + ")", fold.trialPair(i, j), pairs);
                    }
                }
                CHECK.due(letters + " the best as trial, E6 is " + hairpin, fold.trialGap(), 0);
            }
        }
    }
}
