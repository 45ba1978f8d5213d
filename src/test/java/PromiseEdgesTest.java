import java.util.function.Consumer;
import java.util.function.Supplier;

/**
 * The edges that the document names in promises 1 to 16, one method for each sentence, which
 * stands above it: the value at the edge, the value just beyond it, and that a call which is
 * refused leaves the object as it was.
 */
public final class PromiseEdgesTest {
    private static final int FULL = RnaFoldEnergy.FULL;
    private static final int BAD = RnaFoldEnergy.BAD;
    private static final int NONE = RnaFoldEnergy.NONE;
    private static final int LOW = Integer.MIN_VALUE;
    private static final int HIGH = Integer.MAX_VALUE;

    private static final Check CHECK = new Check();

    public static void main(String[] args) {
        witnessSeesChanges();
        questionsChangeNothing();
        minimumIsClamped();
        newObjectIsEmpty();
        fullAtFourteen();
        badBase();
        fullBeforeBad();
        newNumberOfBases();
        newBaseIsNotBlocked();
        dropOfNone();
        dropAnswersTheBase();
        dropTakesTheBlock();
        dropTakesTheTrialPair();
        lengthAtItsEdges();
        blockOutside();
        blockTakesTheTrialPair();
        unblockLeavesTheTrial();
        setEnergyOutside();
        setEnergyAtItsEdges();
        canPairOutside();
        leastEnergyAtItsEdges();
        structuresAtTheirEdges();
        atGapOutside();
        atGapAtItsEdges();
        partnerOutside();
        partnerOfUnpaired();
        neededUnlessCanPair();
        neededInEvery();
        optimaWithUnlessCanPair();
        optimaWithAtItsEdges();
        trialPairBad();
        trialPairNone();
        trialPairBadBeforeNone();
        trialPairAnswersTheNumber();
        trialClearAtItsEdges();
        trialGapAtItsEdges();
        CHECK.finish();
    }

    /** An object with something of everything: a trial, a blocked base, an energy term of its own. */
    private static RnaFoldEnergy filled(String letters) {
        RnaFoldEnergy fold = Sequences.make(2, letters);
        fold.setEnergy(7, 2);
        fold.block(5, true);
        fold.trialPair(1, 6);
        return fold;
    }

    private static RnaFoldEnergy eight() {
        return filled("GGGAACCC");
    }

    private static RnaFoldEnergy fourteen() {
        return filled("GGGAACCCGUAAUC");
    }

    private static void changes(String at, Supplier<RnaFoldEnergy> maker, Consumer<RnaFoldEnergy> calls, boolean due) {
        String before = Witness.of(maker);
        String after = Witness.of(() -> {
            RnaFoldEnergy fold = maker.get();
            calls.accept(fold);
            return fold;
        });
        CHECK.due(at + " changes something", !after.equals(before), due);
    }

    private static void changesNothing(String at, Supplier<RnaFoldEnergy> maker, Consumer<RnaFoldEnergy> calls) {
        changes(at, maker, calls, false);
    }

    /** That a refused call changes nothing says little unless a change would be seen. */
    private static void witnessSeesChanges() {
        changes("addBase", PromiseEdgesTest::eight, fold -> fold.addBase(0), true);
        changes("dropBase", PromiseEdgesTest::fourteen, fold -> fold.dropBase(), true);
        changes("block", PromiseEdgesTest::eight, fold -> fold.block(0, true), true);
        changes("unblock", PromiseEdgesTest::eight, fold -> fold.block(5, false), true);
        changes("trialPair", PromiseEdgesTest::eight, fold -> fold.trialPair(0, 7), true);
        changes("trialClear", PromiseEdgesTest::eight, fold -> fold.trialClear(), true);
        for (int which = 0; which <= 16; which++) {
            int term = which;
            changes("setEnergy(" + which + ", 60)", PromiseEdgesTest::eight, fold -> fold.setEnergy(term, 60), true);
        }
    }

    /** "Nothing is promised beyond the answers and state changes described above": a question changes nothing. */
    private static void questionsChangeNothing() {
        int[] numbers = {LOW, -1, 0, 1, 6, 7, 8, 13, 14, HIGH};
        eachChangesNothing("4: length()", fold -> fold.length());
        eachChangesNothing("8: leastEnergy()", fold -> fold.leastEnergy());
        eachChangesNothing("9: structures()", fold -> fold.structures());
        eachChangesNothing("16: trialGap()", fold -> fold.trialGap());
        for (int i : numbers) {
            eachChangesNothing("10: atGap(" + i + ")", fold -> fold.atGap(i));
            eachChangesNothing("11: partner(" + i + ")", fold -> fold.partner(i));
            eachChangesNothing("7, 12, 13: questions about a pair of " + i, fold -> {
                for (int j : numbers) {
                    fold.canPair(i, j);
                    fold.needed(i, j);
                    fold.optimaWith(i, j);
                }
            });
        }
    }

    private static void eachChangesNothing(String at, Consumer<RnaFoldEnergy> calls) {
        changesNothing(at + " of none", () -> new RnaFoldEnergy(2), calls);
        changesNothing(at + " of 8", PromiseEdgesTest::eight, calls);
        changesNothing(at + " of 14", PromiseEdgesTest::fourteen, calls);
    }

    /** 1: "m is minimum clamped into 2..4 (below 2 becomes 2, above 4 becomes 4)." */
    private static void minimumIsClamped() {
        int[][] minimumAndM = {{LOW, 2}, {-1, 2}, {0, 2}, {1, 2}, {2, 2}, {3, 3}, {4, 4}, {5, 4}, {6, 4}, {HIGH, 4}};
        for (int[] row : minimumAndM) {
            int m = row[1];
            RnaFoldEnergy fold = Sequences.make(row[0], "GCCCCCC");
            CHECK.due("1: minimum " + row[0] + ", m - 1 inside", fold.canPair(0, m), false);
            CHECK.due("1: minimum " + row[0] + ", m inside", fold.canPair(0, m + 1), true);
            CHECK.due("1: minimum " + row[0] + ", structures()", fold.structures(), 1 + 6 - m);
        }
    }

    /** 1: "No bases, no trial pairs." */
    private static void newObjectIsEmpty() {
        int[] minima = {LOW, 1, 2, 4, 5, HIGH};
        for (int minimum : minima) {
            RnaFoldEnergy fold = new RnaFoldEnergy(minimum);
            CHECK.due("1: length()", fold.length(), 0);
            CHECK.due("1: trialClear()", fold.trialClear(), 0);
            CHECK.due("1: trialGap()", fold.trialGap(), 0);
            CHECK.due("1: dropBase()", fold.dropBase(), BAD);
        }
    }

    /** 2: "14 bases are there: FULL". */
    private static void fullAtFourteen() {
        RnaFoldEnergy fold = Sequences.make(2, "AAAAAAAAAAAAA");
        CHECK.due("2: addBase(3) at 13", fold.addBase(3), 14);
        for (int base = 0; base <= 3; base++) {
            CHECK.due("2: addBase(" + base + ") at 14", fold.addBase(base), FULL);
        }
        fold.dropBase();
        CHECK.due("2: addBase(3) at 13 again", fold.addBase(3), 14);
        changesNothing("2: addBase at 14", PromiseEdgesTest::fourteen, full -> {
            for (int base = 0; base <= 3; base++) {
                full.addBase(base);
            }
        });
    }

    /** 2: "base outside 0..3: BAD". */
    private static void badBase() {
        int[] outside = {LOW, -1, 4, HIGH};
        int[] lengths = {0, 1, 8, 13};
        for (int n : lengths) {
            RnaFoldEnergy fold = Sequences.make(2, "A".repeat(n));
            for (int base : outside) {
                CHECK.due("2: addBase(" + base + ") at " + n, fold.addBase(base), BAD);
            }
            CHECK.due("2: addBase(0) at " + n, fold.addBase(0), n + 1);
            fold.dropBase();
            CHECK.due("2: addBase(3) at " + n, fold.addBase(3), n + 1);
        }
        changesNothing("2: addBase outside 0..3", PromiseEdgesTest::eight, fold -> {
            for (int base : outside) {
                fold.addBase(base);
            }
        });
    }

    /** 2: "Tested in this order". */
    private static void fullBeforeBad() {
        int[] outside = {LOW, -1, 4, HIGH};
        RnaFoldEnergy fold = Sequences.make(2, "AAAAAAAAAAAAA");
        for (int base : outside) {
            CHECK.due("2: addBase(" + base + ") at 13", fold.addBase(base), BAD);
        }
        fold.addBase(0);
        for (int base : outside) {
            CHECK.due("2: addBase(" + base + ") at 14", fold.addBase(base), FULL);
        }
        changesNothing("2: addBase outside 0..3 at 14", PromiseEdgesTest::fourteen, full -> {
            for (int base : outside) {
                full.addBase(base);
            }
        });
    }

    /** 2: "Else answers the new number of bases." */
    private static void newNumberOfBases() {
        RnaFoldEnergy fold = new RnaFoldEnergy(2);
        for (int n = 1; n <= 14; n++) {
            CHECK.due("2: addBase, the first time", fold.addBase(3), n);
            fold.dropBase();
            CHECK.due("2: addBase, after dropBase", fold.addBase(2), n);
        }
    }

    /** 2: "Adds a base, not blocked, at the end": at each place, the base before it there being blocked. */
    private static void newBaseIsNotBlocked() {
        for (int n = 3; n <= 13; n++) {
            RnaFoldEnergy fold = Sequences.make(2, "G" + "A".repeat(n - 1) + "C");
            fold.block(n, true);
            fold.dropBase();
            fold.block(n, true);
            fold.addBase(1);
            CHECK.due("2: canPair(0, " + n + ") of a new base", fold.canPair(0, n), true);
        }
    }

    /** 3: "BAD if there is none." */
    private static void dropOfNone() {
        RnaFoldEnergy fold = new RnaFoldEnergy(2);
        CHECK.due("3: dropBase() of none", fold.dropBase(), BAD);
        CHECK.due("3: dropBase() of none, again", fold.dropBase(), BAD);
        CHECK.due("3: length()", fold.length(), 0);
        CHECK.due("3: addBase(3)", fold.addBase(3), 1);
        CHECK.due("3: dropBase() of one", fold.dropBase(), 3);
        CHECK.due("3: dropBase() of none", fold.dropBase(), BAD);
        changesNothing("3: dropBase() of none", () -> new RnaFoldEnergy(2), none -> none.dropBase());
    }

    /** 3: "Answers the base (0..3)": from the 14th down to the first. */
    private static void dropAnswersTheBase() {
        RnaFoldEnergy fold = new RnaFoldEnergy(2);
        for (int n = 0; n < 14; n++) {
            fold.addBase(n % 4);
        }
        for (int n = 13; n >= 0; n--) {
            CHECK.due("3: dropBase() of base " + n, fold.dropBase(), n % 4);
            CHECK.due("3: length()", fold.length(), n);
        }
    }

    /** 3: "Takes the last base away, together with its block": its own one alone. */
    private static void dropTakesTheBlock() {
        RnaFoldEnergy fold = Sequences.make(2, "GAACC");
        fold.block(3, true);
        fold.block(4, true);
        fold.dropBase();
        fold.addBase(1);
        CHECK.due("3: canPair(0, 4), the dropped base's block", fold.canPair(0, 4), true);
        CHECK.due("3: canPair(0, 3), the block of the base before", fold.canPair(0, 3), false);
    }

    /** 3: "and the trial pair that has it, if any." */
    private static void dropTakesTheTrialPair() {
        RnaFoldEnergy fold = Sequences.make(2, "GGAACCA");
        Sequences.buildTrial(fold, "((..)).");
        fold.dropBase();
        CHECK.due("3: no trial pair has it", Sequences.trialEnergy(fold), -33 + 38 + 3 * 2);
        fold.dropBase();
        CHECK.due("3: the outer pair has it", Sequences.trialEnergy(fold), 38 + 3 * 2);
        fold.addBase(1);
        CHECK.due("3: the pair does not come back", Sequences.trialEnergy(fold), 38 + 3 * 2);
        CHECK.due("3: base 0 is free again", fold.trialPair(0, 5), 2);
        fold.dropBase();
        fold.dropBase();
        CHECK.due("3: no pair is left", fold.trialClear(), 0);
    }

    /** 4: "The number of bases": none, 14, and no more than that. */
    private static void lengthAtItsEdges() {
        RnaFoldEnergy fold = new RnaFoldEnergy(4);
        for (int n = 0; n <= 14; n++) {
            CHECK.due("4: length()", fold.length(), n);
            fold.addBase(n % 4);
        }
        CHECK.due("4: length() after FULL", fold.length(), 14);
        for (int n = 13; n >= 0; n--) {
            fold.dropBase();
            CHECK.due("4: length()", fold.length(), n);
        }
        fold.dropBase();
        CHECK.due("4: length() after BAD", fold.length(), 0);
    }

    /** 5: "i outside 0..n-1: refused, answers false. Else true". */
    private static void blockOutside() {
        int[] lengths = {0, 1, 8, 13, 14};
        for (int n : lengths) {
            RnaFoldEnergy fold = Sequences.make(2, "A".repeat(n));
            for (int on = 0; on <= 1; on++) {
                String at = "5: of " + n + " bases, block(";
                CHECK.due(at + "-1)", fold.block(-1, on == 1), false);
                CHECK.due(at + "0)", fold.block(0, on == 1), n > 0);
                CHECK.due(at + (n - 1) + ")", fold.block(n - 1, on == 1), n > 0);
                CHECK.due(at + n + ")", fold.block(n, on == 1), false);
                CHECK.due(at + "LOW)", fold.block(LOW, on == 1), false);
                CHECK.due(at + "HIGH)", fold.block(HIGH, on == 1), false);
            }
        }
        int[] outside = {LOW, -1, 14, 15, HIGH};
        for (int on = 0; on <= 1; on++) {
            boolean value = on == 1;
            changesNothing("5: block(8, " + value + ") of 8", PromiseEdgesTest::eight, fold -> fold.block(8, value));
            changesNothing("5: block outside 14", PromiseEdgesTest::fourteen, fold -> {
                for (int i : outside) {
                    fold.block(i, value);
                }
            });
        }
    }

    /** 5: "when base i becomes blocked, the trial pair that has it, if any, is taken away." */
    private static void blockTakesTheTrialPair() {
        RnaFoldEnergy fold = Sequences.make(2, "GGGAACCC");
        Sequences.buildTrial(fold, "(((..)))");
        fold.block(3, true);
        CHECK.due("5: no pair has base 3", Sequences.trialEnergy(fold), 2 * -33 + 38 + 3 * 2);
        fold.block(0, true);
        CHECK.due("5: base 0 is a pair's lower one", Sequences.trialEnergy(fold), -33 + 38 + 3 * 2);
        fold.block(0, true);
        CHECK.due("5: base 0 is blocked already", Sequences.trialEnergy(fold), -33 + 38 + 3 * 2);
        fold.block(6, true);
        CHECK.due("5: base 6 is a pair's upper one", Sequences.trialEnergy(fold), 38 + 3 * 2);
        CHECK.due("5: one pair is left", fold.trialClear(), 1);
    }

    /** 5: "or unblocks it (false)": that takes no trial pair away and brings none back. */
    private static void unblockLeavesTheTrial() {
        RnaFoldEnergy fold = Sequences.make(2, "GAAC");
        fold.trialPair(0, 3);
        CHECK.due("5: block(0, false), not blocked", fold.block(0, false), true);
        CHECK.due("5: the pair is still there", fold.trialPair(0, 3), NONE);
        fold.block(0, true);
        CHECK.due("5: block(0, false), blocked", fold.block(0, false), true);
        CHECK.due("5: the pair does not come back", fold.trialClear(), 0);
        CHECK.due("5: canPair(0, 3) again", fold.canPair(0, 3), true);
    }

    /** 6: "which outside 0..16 or value outside -60..60: refused, answers false." */
    private static void setEnergyOutside() {
        int[] wrongTerms = {LOW, -1, 17, HIGH};
        int[] wrongValues = {LOW, -61, 61, HIGH};
        RnaFoldEnergy fold = Sequences.make(2, "GAAC");
        for (int which : wrongTerms) {
            CHECK.due("6: setEnergy(" + which + ", 60)", fold.setEnergy(which, 60), false);
            CHECK.due("6: setEnergy(" + which + ", 61)", fold.setEnergy(which, 61), false);
        }
        for (int which = 0; which <= 16; which++) {
            for (int value : wrongValues) {
                CHECK.due("6: setEnergy(" + which + ", " + value + ")", fold.setEnergy(which, value), false);
            }
        }
        changesNothing("6: setEnergy outside 0..16", PromiseEdgesTest::eight, apart -> {
            for (int which : wrongTerms) {
                apart.setEnergy(which, -60);
                apart.setEnergy(which, 60);
            }
        });
        for (int value : wrongValues) {
            changesNothing("6: setEnergy of " + value, PromiseEdgesTest::eight, apart -> {
                for (int which = 0; which <= 16; which++) {
                    apart.setEnergy(which, value);
                }
            });
        }
    }

    /** 6: "Sets the energy term E(which). [..] Else true": the first and the last term, the least and the greatest value. */
    private static void setEnergyAtItsEdges() {
        int[] values = {-60, 60};
        for (int value : values) {
            RnaFoldEnergy stack = Sequences.make(2, "GGAACC");
            Sequences.buildTrial(stack, "((..))");
            CHECK.due("6: setEnergy(0, " + value + ")", stack.setEnergy(0, value), true);
            CHECK.due("6: E0 is " + value, Sequences.trialEnergy(stack), value + 38 + 3 * 2);
            RnaFoldEnergy weak = Sequences.make(2, "ACCU");
            weak.trialPair(0, 3);
            CHECK.due("6: setEnergy(16, " + value + ")", weak.setEnergy(16, value), true);
            CHECK.due("6: E16 is " + value, Sequences.trialEnergy(weak), 38 + 3 * 2 + 2 * value);
            for (int which = 0; which <= 16; which++) {
                CHECK.due("6: setEnergy(" + which + ", " + value + ")", weak.setEnergy(which, value), true);
            }
            CHECK.due("6: all are " + value, Sequences.trialEnergy(weak), 5 * value);
        }
    }

    /** What lies outside 0 <= i < j < n for 8 bases, around (0, 7), and at the ends of int. */
    private static int[][] outsideEight() {
        return new int[][] {{-1, 7}, {0, 8}, {-1, 8}, {7, 0}, {0, 0}, {7, 7}, {-1, -1}, {8, 8}, {-4, 0}, {7, 14},
            {8, 13}, {13, 14}, {LOW, 7}, {0, HIGH}, {0, LOW}, {HIGH, 7}, {LOW, HIGH}, {HIGH, LOW}, {HIGH, HIGH}, {LOW, LOW}};
    }

    private static String pair(int[] pair) {
        return "(" + pair[0] + ", " + pair[1] + ")";
    }

    /** 7: "false unless 0 <= i < j < n." */
    private static void canPairOutside() {
        RnaFoldEnergy fold = Sequences.make(2, "GAAAAAAC");
        CHECK.due("7: canPair(0, 7)", fold.canPair(0, 7), true);
        for (int[] outside : outsideEight()) {
            CHECK.due("7: canPair" + pair(outside), fold.canPair(outside[0], outside[1]), false);
        }
        fold.dropBase();
        CHECK.due("7: canPair(0, 7), base 7 is gone", fold.canPair(0, 7), false);
        fold.addBase(1);
        CHECK.due("7: canPair(0, 7), it is back", fold.canPair(0, 7), true);
    }

    /** 8: "The least energy over all structures": the empty one's 0 is never exceeded. */
    private static void leastEnergyAtItsEdges() {
        RnaFoldEnergy fold = Sequences.make(2, "GAAC");
        fold.setEnergy(7, 0);
        for (int hairpin = -2; hairpin <= 2; hairpin++) {
            fold.setEnergy(6, hairpin);
            CHECK.due("8: leastEnergy(), the pair has " + hairpin, fold.leastEnergy(), Math.min(0, hairpin));
        }
        String[] long14 = {"GAAAAAAAAAAAAC", "GGAACGAACGAACC", "GGGGGGAACCCCCC", "GUGUGUGUGUGUGU"};
        for (String letters : long14) {
            atTheLeastAndGreatestTerms(letters);
        }
    }

    private static void atTheLeastAndGreatestTerms(String letters) {
        DocumentModel model = new DocumentModel(2);
        for (char letter : letters.toCharArray()) {
            model.addBase("ACGU".indexOf(letter));
        }
        RnaFoldEnergy fold = Sequences.make(2, letters);
        int[] values = {-60, 60};
        for (int value : values) {
            for (int which = 0; which <= 16; which++) {
                fold.setEnergy(which, value);
                model.setEnergy(which, value);
            }
            CHECK.due("8: " + letters + ", all terms " + value, fold.leastEnergy(), model.leastEnergy());
            CHECK.due("9: " + letters + ", all terms " + value, fold.structures(), model.structures());
        }
    }

    /** 9: "The number of all structures": just the empty one as long as no pair has room. */
    private static void structuresAtTheirEdges() {
        for (int m = 2; m <= 4; m++) {
            for (int n = 0; n <= m + 1; n++) {
                CHECK.due("9: m = " + m + ", " + n + " bases", Sequences.make(m, "GCGCG".substring(0, n)).structures(), 1);
            }
            CHECK.due("9: m = " + m + ", m + 2 bases", Sequences.make(m, "G" + "A".repeat(m) + "C").structures(), 2);
        }
        // Each choice of as many G as C gives one structure: 12 over 6.
        CHECK.due("9: 14 bases", Sequences.make(2, "GGGGGGAACCCCCC").structures(), 924);
    }

    /** 10: "BAD for k outside 0..7." */
    private static void atGapOutside() {
        int[] outside = {LOW, LOW + 1, -8, -1, 8, 9, HIGH - 1, HIGH};
        RnaFoldEnergy none = new RnaFoldEnergy(2);
        // A least energy below 0 too: least + k must not come round to an energy that there is.
        RnaFoldEnergy below = Sequences.make(2, "GGGGAAAACCCC");
        for (int k : outside) {
            CHECK.due("10: no base, atGap(" + k + ")", none.atGap(k), BAD);
            CHECK.due("10: atGap(" + k + ")", below.atGap(k), BAD);
        }
        for (int k = 0; k <= 7; k++) {
            CHECK.due("10: no base, atGap(" + k + ")", none.atGap(k), k == 0 ? 1 : 0);
            CHECK.due("10: atGap(" + k + ")", below.atGap(k), k == 0 ? 1 : 0);
        }
    }

    /** 10: "The number of structures whose energy is exactly leastEnergy() + k". */
    private static void atGapAtItsEdges() {
        RnaFoldEnergy fold = Sequences.make(2, "GAAC");
        fold.setEnergy(7, 0);
        for (int hairpin = -9; hairpin <= 9; hairpin++) {
            fold.setEnergy(6, hairpin);
            int gap = Math.abs(hairpin);
            for (int k = 0; k <= 7; k++) {
                int due = (k == 0 ? 1 : 0) + (k == gap ? 1 : 0);
                CHECK.due("10: atGap(" + k + "), the pair has " + hairpin, fold.atGap(k), due);
            }
        }
    }

    /** 11: "BAD if i is outside 0..n-1." */
    private static void partnerOutside() {
        RnaFoldEnergy fold = new RnaFoldEnergy(2);
        CHECK.due("11: no base, partner(0)", fold.partner(0), BAD);
        CHECK.due("11: no base, partner(-1)", fold.partner(-1), BAD);
        fold = Sequences.make(2, "GGGAACCC");
        Sequences.setAll(fold, -1);
        int[] outside = {LOW, -1, 8, 9, 13, 14, HIGH};
        for (int i : outside) {
            CHECK.due("11: partner(" + i + ")", fold.partner(i), BAD);
        }
        CHECK.due("11: partner(0)", fold.partner(0), 7);
        CHECK.due("11: partner(7)", fold.partner(7), 0);
        fold.dropBase();
        CHECK.due("11: partner(7), base 7 is gone", fold.partner(7), BAD);
    }

    /** 11: "NONE if it is unpaired there". */
    private static void partnerOfUnpaired() {
        RnaFoldEnergy fold = Sequences.make(2, "AGAACA");
        fold.setEnergy(6, -60);
        int[] due = {NONE, 4, NONE, NONE, 1, NONE};
        for (int i = 0; i < 6; i++) {
            CHECK.due("11: partner(" + i + ")", fold.partner(i), due[i]);
        }
        fold.setEnergy(6, 60);
        for (int i = 0; i < 6; i++) {
            CHECK.due("11: partner(" + i + ") in the empty structure", fold.partner(i), NONE);
        }
    }

    /** 12: "false unless i and j can pair." */
    private static void neededUnlessCanPair() {
        RnaFoldEnergy fold = Sequences.make(2, "GAAAAAAC");
        fold.setEnergy(6, -60);
        CHECK.due("12: needed(0, 7)", fold.needed(0, 7), true);
        for (int[] outside : outsideEight()) {
            CHECK.due("12: needed" + pair(outside), fold.needed(outside[0], outside[1]), false);
        }
        CHECK.due("12: needed(1, 7), A and C", fold.needed(1, 7), false);
        fold.block(7, true);
        CHECK.due("12: needed(0, 7), blocked", fold.needed(0, 7), false);
        CHECK.due("12: needed(0, 3), no base", new RnaFoldEnergy(2).needed(0, 3), false);
    }

    /** Two structures have the least energy: (0, 3) with (4, 7), and (0, 3) with (4, 8). */
    private static RnaFoldEnergy twoOptima() {
        RnaFoldEnergy fold = Sequences.make(2, "GAACGAACC");
        Sequences.setAll(fold, 0);
        fold.setEnergy(6, -1);
        return fold;
    }

    /** 12: "Whether every structure of least energy has the pair (i, j)". */
    private static void neededInEvery() {
        RnaFoldEnergy fold = twoOptima();
        CHECK.due("12: how many there are", fold.atGap(0), 2);
        CHECK.due("12: in both of two", fold.needed(0, 3), true);
        CHECK.due("12: in the first of two", fold.needed(4, 7), false);
        CHECK.due("12: in the second of two", fold.needed(4, 8), false);
        CHECK.due("12: in none of two", fold.needed(0, 7), false);
        fold = Sequences.make(2, "GAAC");
        fold.setEnergy(7, 0);
        for (int hairpin = -1; hairpin <= 1; hairpin++) {
            fold.setEnergy(6, hairpin);
            CHECK.due("12: the pair has " + hairpin + ", the empty one 0", fold.needed(0, 3), hairpin < 0);
        }
    }

    /** 13: "0 unless i and j can pair." */
    private static void optimaWithUnlessCanPair() {
        RnaFoldEnergy fold = Sequences.make(2, "GAAAAAAC");
        fold.setEnergy(6, -60);
        CHECK.due("13: optimaWith(0, 7)", fold.optimaWith(0, 7), 1);
        for (int[] outside : outsideEight()) {
            CHECK.due("13: optimaWith" + pair(outside), fold.optimaWith(outside[0], outside[1]), 0);
        }
        CHECK.due("13: optimaWith(1, 7), A and C", fold.optimaWith(1, 7), 0);
        fold.block(7, true);
        CHECK.due("13: optimaWith(0, 7), blocked", fold.optimaWith(0, 7), 0);
        CHECK.due("13: optimaWith(0, 3), no base", new RnaFoldEnergy(2).optimaWith(0, 3), 0);
    }

    /** 13: "The number of structures of energy leastEnergy() that have the pair (i, j)". */
    private static void optimaWithAtItsEdges() {
        RnaFoldEnergy fold = twoOptima();
        CHECK.due("13: both of two", fold.optimaWith(0, 3), 2);
        CHECK.due("13: one of two", fold.optimaWith(4, 7), 1);
        CHECK.due("13: the other one", fold.optimaWith(4, 8), 1);
        CHECK.due("13: none of two", fold.optimaWith(0, 7), 0);
        fold = Sequences.make(2, "GAAC");
        fold.setEnergy(7, 0);
        for (int hairpin = -1; hairpin <= 1; hairpin++) {
            fold.setEnergy(6, hairpin);
            CHECK.due("13: the pair has " + hairpin + ", the empty one 0", fold.optimaWith(0, 3), hairpin <= 0 ? 1 : 0);
        }
    }

    /** 14: "i and j can't pair, or not 0 <= i < j < n: BAD." */
    private static void trialPairBad() {
        RnaFoldEnergy fold = Sequences.make(2, "GAAAAAAC");
        for (int[] outside : outsideEight()) {
            CHECK.due("14: trialPair" + pair(outside), fold.trialPair(outside[0], outside[1]), BAD);
        }
        CHECK.due("14: trialPair(1, 7), A and C", fold.trialPair(1, 7), BAD);
        fold.block(7, true);
        CHECK.due("14: trialPair(0, 7), blocked", fold.trialPair(0, 7), BAD);
        fold.block(7, false);
        CHECK.due("14: trialPair(0, 7)", fold.trialPair(0, 7), 1);
        CHECK.due("14: no base", new RnaFoldEnergy(2).trialPair(0, 3), BAD);
        changesNothing("14: a pair that is BAD", PromiseEdgesTest::eight, apart -> {
            for (int[] outside : outsideEight()) {
                apart.trialPair(outside[0], outside[1]);
            }
            apart.trialPair(3, 7);
            apart.trialPair(0, 5);
            apart.trialPair(0, 2);
        });
    }

    /** 14: "The trial with the pair would not be a structure (also when it has the pair already): NONE." */
    private static void trialPairNone() {
        RnaFoldEnergy fold = Sequences.make(2, "GGGAACCC");
        fold.trialPair(1, 6);
        CHECK.due("14: it has the pair already", fold.trialPair(1, 6), NONE);
        CHECK.due("14: the lower base is taken", fold.trialPair(1, 5), NONE);
        CHECK.due("14: the upper base is taken", fold.trialPair(0, 6), NONE);
        CHECK.due("14: crosses from below", fold.trialPair(0, 5), NONE);
        CHECK.due("14: crosses from above", fold.trialPair(2, 7), NONE);
        CHECK.due("14: just inside", fold.trialPair(2, 5), 2);
        CHECK.due("14: just outside", fold.trialPair(0, 7), 3);
        CHECK.due("14: a pair between two others, already there", fold.trialPair(1, 6), NONE);
        changesNothing("14: a pair that is NONE", PromiseEdgesTest::eight, apart -> {
            apart.trialPair(1, 6);
            apart.trialPair(1, 7);
            apart.trialPair(0, 6);
            apart.trialPair(2, 7);
        });
    }

    /** 14: "Tested in this order": pairs that can't pair and would not fit either. */
    private static void trialPairBadBeforeNone() {
        RnaFoldEnergy fold = Sequences.make(2, "GGGAACCC");
        fold.trialPair(1, 6);
        CHECK.due("14: (2, 7) crosses", fold.trialPair(2, 7), NONE);
        fold.block(7, true);
        CHECK.due("14: (2, 7) crosses, and is blocked", fold.trialPair(2, 7), BAD);
        CHECK.due("14: (3, 7) crosses, A and C", fold.trialPair(3, 7), BAD);
        CHECK.due("14: (5, 6) shares a base, too near", fold.trialPair(5, 6), BAD);
        CHECK.due("14: (6, 1), the wrong way round", fold.trialPair(6, 1), BAD);
        CHECK.due("14: (1, 1) of a taken base", fold.trialPair(1, 1), BAD);
        CHECK.due("14: (1, 8), base 1 is taken, no base 8", fold.trialPair(1, 8), BAD);
        CHECK.due("14: (-1, 6), base 6 is taken, no base -1", fold.trialPair(-1, 6), BAD);
    }

    /** 14: "Else answers the number of trial pairs then": from 1 to 6, the most that 14 bases can have. */
    private static void trialPairAnswersTheNumber() {
        RnaFoldEnergy fold = Sequences.make(2, "GGGGGGAACCCCCC");
        for (int i = 0; i < 6; i++) {
            CHECK.due("14: from outside", fold.trialPair(i, 13 - i), i + 1);
        }
        fold.trialClear();
        for (int i = 5; i >= 0; i--) {
            CHECK.due("14: from inside", fold.trialPair(i, 13 - i), 6 - i);
        }
        fold.block(3, true);
        fold.block(3, false);
        CHECK.due("14: after one was taken away", fold.trialPair(3, 10), 6);
    }

    /** 15: "Takes all trial pairs away; answers how many there were." */
    private static void trialClearAtItsEdges() {
        RnaFoldEnergy fold = Sequences.make(2, "GGGGGGAACCCCCC");
        CHECK.due("15: of none", fold.trialClear(), 0);
        fold.trialPair(0, 13);
        CHECK.due("15: of one", fold.trialClear(), 1);
        CHECK.due("15: then of none", fold.trialClear(), 0);
        Sequences.buildTrial(fold, "((((((..))))))");
        CHECK.due("15: of six", fold.trialClear(), 6);
        CHECK.due("15: then of none", fold.trialClear(), 0);
        CHECK.due("15: the empty trial has energy 0", Sequences.trialEnergy(fold), 0);
        CHECK.due("15: the first pair after it", fold.trialPair(1, 8), 1);
        changesNothing("15: trialClear() of none", () -> Sequences.make(2, "GGAACC"), none -> none.trialClear());
    }

    /** 16: "The energy of the trial minus leastEnergy()": 0 for an optimum, never below. */
    private static void trialGapAtItsEdges() {
        CHECK.due("16: no base", new RnaFoldEnergy(2).trialGap(), 0);
        RnaFoldEnergy empty = Sequences.make(2, "GAAC");
        RnaFoldEnergy paired = Sequences.make(2, "GAAC");
        paired.trialPair(0, 3);
        empty.setEnergy(7, 0);
        paired.setEnergy(7, 0);
        for (int hairpin = -60; hairpin <= 60; hairpin += 15) {
            empty.setEnergy(6, hairpin);
            paired.setEnergy(6, hairpin);
            CHECK.due("16: the empty trial, the pair has " + hairpin, empty.trialGap(), Math.max(0, -hairpin));
            CHECK.due("16: the pair as trial, it has " + hairpin, paired.trialGap(), Math.max(0, hairpin));
        }
    }
}
