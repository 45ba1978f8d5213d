/** Each promise by its number: ordinary inputs, the edges that the document names, wrong inputs. */
public final class PromisesTest {
    private static final int FULL = RnaFoldEnergy.FULL;
    private static final int BAD = RnaFoldEnergy.BAD;
    private static final int NONE = RnaFoldEnergy.NONE;
    private static final int LOW = Integer.MIN_VALUE;
    private static final int HIGH = Integer.MAX_VALUE;

    private static final Check CHECK = new Check();

    public static void main(String[] args) {
        newObject();
        addBase();
        dropBase();
        length();
        block();
        setEnergy();
        canPair();
        leastEnergy();
        structures();
        atGap();
        partner();
        needed();
        optimaWith();
        trialPair();
        trialClear();
        trialGap();
        objectsAreApart();
        CHECK.finish();
    }

    private static void newObject() {
        int[][] minimumAndM = {{LOW, 2}, {-1, 2}, {0, 2}, {1, 2}, {2, 2}, {3, 3}, {4, 4}, {5, 4}, {6, 4}, {HIGH, 4}};
        for (int[] row : minimumAndM) {
            RnaFoldEnergy fold = new RnaFoldEnergy(row[0]);
            String at = "1: minimum " + row[0] + " ";
            CHECK.due(at + "length()", fold.length(), 0);
            CHECK.due(at + "trialClear()", fold.trialClear(), 0);
            CHECK.due(at + "trialGap()", fold.trialGap(), 0);
            CHECK.due(at + "leastEnergy()", fold.leastEnergy(), 0);
            CHECK.due(at + "structures()", fold.structures(), 1);
            CHECK.due(at + "atGap(0)", fold.atGap(0), 1);
            CHECK.due(at + "partner(0)", fold.partner(0), BAD);
            fold = Sequences.make(row[0], "GCCCCC");
            for (int j = 0; j < 6; j++) {
                CHECK.due(at + "canPair(0, " + j + ")", fold.canPair(0, j), j - 1 >= row[1]);
            }
        }
    }

    private static void addBase() {
        RnaFoldEnergy fold = new RnaFoldEnergy(3);
        CHECK.due("2: addBase(4)", fold.addBase(4), BAD);
        CHECK.due("2: addBase(-1)", fold.addBase(-1), BAD);
        CHECK.due("2: addBase(HIGH)", fold.addBase(HIGH), BAD);
        CHECK.due("2: addBase(LOW)", fold.addBase(LOW), BAD);
        CHECK.due("2: nothing added", fold.length(), 0);
        for (int n = 1; n <= 14; n++) {
            CHECK.due("2: addBase(" + n % 4 + ")", fold.addBase(n % 4), n);
            CHECK.due("2: length()", fold.length(), n);
        }
        CHECK.due("2: addBase(0) at 14", fold.addBase(0), FULL);
        CHECK.due("2: addBase(4) at 14, FULL goes first", fold.addBase(4), FULL);
        CHECK.due("2: addBase(-1) at 14, FULL goes first", fold.addBase(-1), FULL);
        CHECK.due("2: length() at 14", fold.length(), 14);
        for (int n = 14; n >= 1; n--) {
            CHECK.due("2: the bases kept their order", fold.dropBase(), n % 4);
        }
        CHECK.due("2: a base changes what follows", Sequences.make(2, "GAAC").structures(), 2);
    }

    private static void dropBase() {
        RnaFoldEnergy fold = new RnaFoldEnergy(2);
        CHECK.due("3: dropBase() of none", fold.dropBase(), BAD);
        CHECK.due("3: length()", fold.length(), 0);
        fold = Sequences.make(2, "GGAACC");
        Sequences.buildTrial(fold, "((..))");
        CHECK.due("3: dropBase()", fold.dropBase(), 1);
        CHECK.due("3: length()", fold.length(), 5);
        CHECK.due("3: trialGap(), the inner pair is left", fold.trialGap(), 38 + 3 * 2);
        fold.addBase(1);
        CHECK.due("3: trialGap(), the pair does not come back", fold.trialGap(), 38 + 3 * 2);
        CHECK.due("3: trialPair(0, 5)", fold.trialPair(0, 5), 2);
        fold.addBase(0);
        CHECK.due("3: dropBase() of a base in no pair", fold.dropBase(), 0);
        CHECK.due("3: trialClear()", fold.trialClear(), 2);
        CHECK.due("3: canPair(0, 6), it is gone", fold.canPair(0, 6), false);
        int[] rest = {1, 1, 0, 0, 2, 2, BAD, BAD};
        for (int base : rest) {
            CHECK.due("3: dropBase() to the end", fold.dropBase(), base);
        }
    }

    private static void length() {
        RnaFoldEnergy fold = new RnaFoldEnergy(4);
        CHECK.due("4: length()", fold.length(), 0);
        fold.addBase(3);
        fold.addBase(0);
        CHECK.due("4: length()", fold.length(), 2);
        fold.addBase(7);
        CHECK.due("4: length() after BAD", fold.length(), 2);
        fold.dropBase();
        CHECK.due("4: length() after dropBase()", fold.length(), 1);
        fold.block(0, true);
        CHECK.due("4: length() counts blocked bases", fold.length(), 1);
    }

    private static void block() {
        RnaFoldEnergy fold = new RnaFoldEnergy(2);
        CHECK.due("5: block(0, true) of no base", fold.block(0, true), false);
        fold = Sequences.make(2, "GGAACC");
        int[] outside = {LOW, -1, 6, 13, 14, HIGH};
        for (int i : outside) {
            CHECK.due("5: block(" + i + ", true)", fold.block(i, true), false);
            CHECK.due("5: block(" + i + ", false)", fold.block(i, false), false);
        }
        fold.addBase(1);
        CHECK.due("5: a refused block left no mark", fold.canPair(0, 6), true);
        fold.dropBase();
        Sequences.buildTrial(fold, "((..))");
        CHECK.due("5: block(2, true) of a base in no pair", fold.block(2, true), true);
        CHECK.due("5: trialPair(1, 4), still there", fold.trialPair(1, 4), NONE);
        CHECK.due("5: block(1, false) of one not blocked", fold.block(1, false), true);
        CHECK.due("5: trialPair(1, 4), still there", fold.trialPair(1, 4), NONE);
        CHECK.due("5: block(1, true)", fold.block(1, true), true);
        CHECK.due("5: canPair(1, 4)", fold.canPair(1, 4), false);
        CHECK.due("5: trialGap(), the outer pair is left", fold.trialGap(), 38 + 3 * 4);
        CHECK.due("5: block(1, true) again", fold.block(1, true), true);
        CHECK.due("5: structures()", fold.structures(), 3);
        CHECK.due("5: block(1, false)", fold.block(1, false), true);
        CHECK.due("5: canPair(1, 4)", fold.canPair(1, 4), true);
        CHECK.due("5: trialGap(), the pair does not come back", fold.trialGap(), 38 + 3 * 4);
        CHECK.due("5: block(5, true), the pair's upper base", fold.block(5, true), true);
        CHECK.due("5: canPair(0, 5)", fold.canPair(0, 5), false);
        CHECK.due("5: trialClear()", fold.trialClear(), 0);
    }

    private static void setEnergy() {
        RnaFoldEnergy fold = Sequences.make(2, "GAAC");
        fold.trialPair(0, 3);
        int[] wrongTerms = {LOW, -1, 17, 18, HIGH};
        for (int which : wrongTerms) {
            CHECK.due("6: setEnergy(" + which + ", 0)", fold.setEnergy(which, 0), false);
        }
        int[] wrongValues = {LOW, -61, 61, HIGH};
        for (int which = 0; which <= 16; which++) {
            for (int value : wrongValues) {
                CHECK.due("6: setEnergy(" + which + ", " + value + ")", fold.setEnergy(which, value), false);
            }
        }
        CHECK.due("6: trialGap(), nothing was set", fold.trialGap(), 38 + 3 * 2);
        for (int which = 0; which <= 16; which++) {
            CHECK.due("6: setEnergy(" + which + ", -60)", fold.setEnergy(which, -60), true);
            CHECK.due("6: setEnergy(" + which + ", 60)", fold.setEnergy(which, 60), true);
        }
        CHECK.due("6: trialGap(), all at 60", fold.trialGap(), 60 + 60 * 2);
        fold.setEnergy(6, -60);
        fold.setEnergy(7, -60);
        CHECK.due("6: leastEnergy(), at -60", fold.leastEnergy(), -60 - 60 * 2);
        CHECK.due("6: trialGap(), at -60", fold.trialGap(), 0);
    }

    private static void canPair() {
        String letters = "ACGU";
        String pairs = " AU UA CG GC GU UG ";
        for (int b = 0; b < 16; b++) {
            String two = "" + letters.charAt(b / 4) + letters.charAt(b % 4);
            RnaFoldEnergy fold = Sequences.make(2, two.charAt(0) + "AA" + two.charAt(1));
            CHECK.due("7: " + two + " canPair(0, 3)", fold.canPair(0, 3), pairs.contains(" " + two + " "));
        }
        RnaFoldEnergy fold = Sequences.make(4, "GCCCCCC");
        for (int j = -1; j <= 7; j++) {
            CHECK.due("7: m = 4, canPair(0, " + j + ")", fold.canPair(0, j), j == 5 || j == 6);
            CHECK.due("7: the other way round", fold.canPair(j, 0), false);
        }
        int[] outside = {LOW, -1, 7, 13, 14, HIGH};
        for (int i : outside) {
            CHECK.due("7: canPair(" + i + ", 6)", fold.canPair(i, 6), false);
            CHECK.due("7: canPair(0, " + i + ")", fold.canPair(0, i), false);
        }
        CHECK.due("7: canPair(LOW, HIGH)", fold.canPair(LOW, HIGH), false);
        fold.block(0, true);
        CHECK.due("7: lower base blocked", fold.canPair(0, 6), false);
        fold.block(0, false);
        fold.block(6, true);
        CHECK.due("7: upper base blocked", fold.canPair(0, 6), false);
        CHECK.due("7: another upper base", fold.canPair(0, 5), true);
    }

    private static void leastEnergy() {
        RnaFoldEnergy fold = Sequences.make(3, "GGGGAAAACCCC");
        CHECK.due("8: three stacks on a hairpin", fold.leastEnergy(), 3 * -33 + 38 + 3 * 4);
        CHECK.due("8: none is better than the empty one", Sequences.make(2, "GAAC").leastEnergy(), 0);
        CHECK.due("8: nothing can pair", Sequences.make(2, "AAAAAAAA").leastEnergy(), 0);
        fold = Sequences.make(2, "GGAACGAACC");
        fold.setEnergy(13, -60);
        fold.setEnergy(6, 10);
        CHECK.due("8: a multiloop", fold.leastEnergy(), -60 + 4 * 3 + 2 * (10 + 3 * 2));
        fold.trialPair(0, 9);
        CHECK.due("8: the trial does not matter", fold.leastEnergy(), -60 + 4 * 3 + 2 * (10 + 3 * 2));
        fold.block(0, true);
        CHECK.due("8: one base blocked", fold.leastEnergy(), 0);
        fold = Sequences.make(4, "GAAAAAAAAAAAAC");
        Sequences.setAll(fold, -60);
        CHECK.due("8: a hairpin of 12 bases at -60", fold.leastEnergy(), -60 - 60 * 12);
        Sequences.setAll(fold, 60);
        CHECK.due("8: and at 60", fold.leastEnergy(), 0);
    }

    private static void structures() {
        CHECK.due("9: no base", new RnaFoldEnergy(2).structures(), 1);
        CHECK.due("9: GAAC", Sequences.make(2, "GAAC").structures(), 2);
        CHECK.due("9: GAAC, m = 3", Sequences.make(3, "GAAC").structures(), 1);
        // Of GGAACC the pairs (0,4) (0,5) (1,4) (1,5) and the two (0,5) (1,4); (0,4) (1,5) cross.
        RnaFoldEnergy fold = Sequences.make(2, "GGAACC");
        CHECK.due("9: GGAACC", fold.structures(), 6);
        fold.setEnergy(6, -60);
        CHECK.due("9: the energies do not matter", fold.structures(), 6);
        fold.block(4, true);
        CHECK.due("9: GGAACC, base 4 blocked", fold.structures(), 3);
        CHECK.due("9: side by side", Sequences.make(2, "GAACGAAC").structures(), 5);
        // Each choice of as many G as C gives one structure: 12 over 6.
        CHECK.due("9: 14 bases", Sequences.make(2, "GGGGGGAACCCCCC").structures(), 924);
    }

    private static void atGap() {
        RnaFoldEnergy fold = Sequences.make(2, "GGAACC");
        int[] outside = {LOW, -1, 8, HIGH};
        for (int k : outside) {
            CHECK.due("10: atGap(" + k + ")", fold.atGap(k), BAD);
        }
        // The hairpins of 2, 3, 3 and 4 bases have -1, 0, 0 and 1, the stack with the first 6.
        Sequences.setAll(fold, 0);
        fold.setEnergy(6, -3);
        fold.setEnergy(7, 1);
        fold.setEnergy(0, 7);
        int[] want = {1, 3, 1, 0, 0, 0, 0, 1};
        for (int k = 0; k <= 7; k++) {
            CHECK.due("10: atGap(" + k + ")", fold.atGap(k), want[k]);
        }
        fold.setEnergy(0, 8);
        CHECK.due("10: atGap(7), the stack is now 8 away", fold.atGap(7), 0);
        CHECK.due("10: atGap(8)", fold.atGap(8), BAD);
        Sequences.setAll(fold, 0);
        CHECK.due("10: atGap(0), all are equal", fold.atGap(0), 6);
        fold = new RnaFoldEnergy(2);
        CHECK.due("10: no base, atGap(0)", fold.atGap(0), 1);
        CHECK.due("10: no base, atGap(7)", fold.atGap(7), 0);
    }

    private static void best(String at, RnaFoldEnergy fold, String want) {
        CHECK.due(at, Sequences.best(fold), want);
    }

    private static void partner() {
        RnaFoldEnergy fold = Sequences.make(3, "GGGGAAAACCCC");
        int[] want = {11, 10, 9, 8, NONE, NONE, NONE, NONE, 3, 2, 1, 0};
        for (int i = 0; i < 12; i++) {
            CHECK.due("11: partner(" + i + ")", fold.partner(i), want[i]);
        }
        int[] outside = {LOW, -1, 12, 13, 14, HIGH};
        for (int i : outside) {
            CHECK.due("11: partner(" + i + ")", fold.partner(i), BAD);
        }
        CHECK.due("11: no base, partner(0)", new RnaFoldEnergy(2).partner(0), BAD);
        best("11: the empty one has the least", Sequences.make(2, "GAAC"), "....");
        bestAmongEqual();
        best("11: nothing can pair", Sequences.make(2, "AAAA"), "....");
    }

    private static void bestAmongEqual() {
        RnaFoldEnergy fold = Sequences.make(2, "GAAC");
        Sequences.setAll(fold, 0);
        best("11: paired goes before unpaired", fold, "(..)");
        fold = Sequences.make(2, "GGAACC");
        Sequences.setAll(fold, 0);
        best("11: base 0 takes the smaller partner, base 1 can't pair then", fold, "(...).");
        fold.setEnergy(0, -1);
        best("11: the least energy goes before the order", fold, "((..))");
        fold.setEnergy(0, 0);
        fold.block(0, true);
        best("11: base 0 can't, base 1 takes the smaller partner", fold, ".(..).");
        fold = Sequences.make(2, "GAACCGAAC");
        Sequences.setAll(fold, 0);
        best("11: later bases too", fold, "(..).(..)");
        fold.setEnergy(6, -1);
        fold.setEnergy(7, 0);
        best("11: two hairpins", fold, "(..).(..)");
        fold = Sequences.make(2, "AGAACC");
        Sequences.setAll(fold, 0);
        best("11: base 0 has nobody", fold, ".(..).");
    }

    private static void needed() {
        RnaFoldEnergy fold = Sequences.make(3, "GGGGAAAACCCC");
        for (int i = -1; i <= 12; i++) {
            for (int j = -1; j <= 12; j++) {
                CHECK.due("12: needed(" + i + ", " + j + ")", fold.needed(i, j), i >= 0 && i <= 3 && j == 11 - i);
            }
        }
        CHECK.due("12: needed(LOW, HIGH)", fold.needed(LOW, HIGH), false);
        CHECK.due("12: needed(14, 15)", fold.needed(14, 15), false);
        fold.block(3, true);
        CHECK.due("12: needed(3, 8) of a blocked base", fold.needed(3, 8), false);
        // With the hairpin's u counting nothing, (0,4) (0,5) (1,4) (1,5) are equal.
        fold = Sequences.make(2, "GGAACC");
        Sequences.setAll(fold, 0);
        fold.setEnergy(6, -1);
        fold.setEnergy(0, 1);
        CHECK.due("12: in one of four", fold.needed(0, 4), false);
        fold.block(1, true);
        CHECK.due("12: in one of two", fold.needed(0, 4), false);
        fold.block(5, true);
        CHECK.due("12: in the only one", fold.needed(0, 4), true);
        fold.setEnergy(6, 0);
        CHECK.due("12: the empty one is as good", fold.needed(0, 4), false);
    }

    private static void optimaWith() {
        RnaFoldEnergy fold = Sequences.make(3, "GGGGAAAACCCC");
        for (int i = -1; i <= 12; i++) {
            for (int j = -1; j <= 12; j++) {
                CHECK.due("13: optimaWith(" + i + ", " + j + ")", fold.optimaWith(i, j),
                    i >= 0 && i <= 3 && j == 11 - i ? 1 : 0);
            }
        }
        CHECK.due("13: optimaWith(LOW, HIGH)", fold.optimaWith(LOW, HIGH), 0);
        CHECK.due("13: optimaWith(14, 15)", fold.optimaWith(14, 15), 0);
        fold = Sequences.make(2, "GGAACC");
        Sequences.setAll(fold, 0);
        CHECK.due("13: optimaWith(0, 5), alone and with (1, 4)", fold.optimaWith(0, 5), 2);
        CHECK.due("13: optimaWith(1, 4)", fold.optimaWith(1, 4), 2);
        CHECK.due("13: optimaWith(0, 4)", fold.optimaWith(0, 4), 1);
        CHECK.due("13: optimaWith(4, 0)", fold.optimaWith(4, 0), 0);
        CHECK.due("13: optimaWith(2, 5), they can't pair", fold.optimaWith(2, 5), 0);
        fold.setEnergy(0, 1);
        CHECK.due("13: optimaWith(0, 5), the stack is worse", fold.optimaWith(0, 5), 1);
        fold.setEnergy(6, 1);
        CHECK.due("13: optimaWith(0, 5), just the empty one is left", fold.optimaWith(0, 5), 0);
        fold.setEnergy(6, 0);
        fold.block(5, true);
        CHECK.due("13: optimaWith(0, 5), blocked", fold.optimaWith(0, 5), 0);
    }

    private static void trialPair() {
        RnaFoldEnergy fold = Sequences.make(2, "GGGAACCCGAAC");
        CHECK.due("14: trialPair(1, 6)", fold.trialPair(1, 6), 1);
        CHECK.due("14: again", fold.trialPair(1, 6), NONE);
        CHECK.due("14: its lower base is taken", fold.trialPair(1, 5), NONE);
        CHECK.due("14: its upper base is taken", fold.trialPair(0, 6), NONE);
        CHECK.due("14: crosses from below", fold.trialPair(0, 5), NONE);
        CHECK.due("14: crosses from above", fold.trialPair(2, 7), NONE);
        CHECK.due("14: around it", fold.trialPair(0, 7), 2);
        CHECK.due("14: within it", fold.trialPair(2, 5), 3);
        CHECK.due("14: beside them", fold.trialPair(8, 11), 4);
        int[][] bad = {{-1, 5}, {0, 12}, {6, 1}, {11, 8}, {2, 2}, {3, 9}, {0, 2}, {LOW, HIGH}, {HIGH, LOW}, {13, 14}, {12, 13}};
        for (int[] pair : bad) {
            CHECK.due("14: trialPair(" + pair[0] + ", " + pair[1] + ")", fold.trialPair(pair[0], pair[1]), BAD);
        }
        CHECK.due("14: what was refused was not added", fold.trialClear(), 4);
        fold.trialPair(1, 6);
        fold.block(7, true);
        CHECK.due("14: a blocked base, BAD goes first", fold.trialPair(2, 7), BAD);
        CHECK.due("14: too near within a pair, BAD goes first", fold.trialPair(5, 6), BAD);
        takenBaseAtTheEdge();
        CHECK.due("14: no base", new RnaFoldEnergy(2).trialPair(0, 3), BAD);
    }

    /** One pair's upper base as another one's lower base, and the other way round. */
    private static void takenBaseAtTheEdge() {
        RnaFoldEnergy fold = Sequences.make(2, "GAACAAG");
        CHECK.due("14: trialPair(0, 3)", fold.trialPair(0, 3), 1);
        CHECK.due("14: trialPair(3, 6), base 3 is taken", fold.trialPair(3, 6), NONE);
        fold.trialClear();
        CHECK.due("14: trialPair(3, 6)", fold.trialPair(3, 6), 1);
        CHECK.due("14: trialPair(0, 3), base 3 is taken", fold.trialPair(0, 3), NONE);
    }

    private static void trialClear() {
        RnaFoldEnergy fold = Sequences.make(2, "GGAACCGAAC");
        CHECK.due("15: trialClear() of none", fold.trialClear(), 0);
        fold.trialPair(0, 5);
        fold.trialPair(6, 9);
        fold.trialPair(1, 4);
        CHECK.due("15: trialClear()", fold.trialClear(), 3);
        CHECK.due("15: trialClear() again", fold.trialClear(), 0);
        CHECK.due("15: trialGap() of the empty trial", fold.trialGap(), 0);
        CHECK.due("15: trialPair(0, 4) fits again", fold.trialPair(0, 4), 1);
        CHECK.due("15: the bases are still there", fold.length(), 10);
    }

    private static void trialGap() {
        RnaFoldEnergy fold = Sequences.make(3, "GGGGAAAACCCC");
        CHECK.due("16: the empty trial", fold.trialGap(), 49);
        Sequences.buildTrial(fold, "((((....))))");
        CHECK.due("16: the best as trial", fold.trialGap(), 0);
        fold.setEnergy(6, 60);
        CHECK.due("16: E6 is 60, the best one's energy -27", fold.trialGap(), 0);
        fold.setEnergy(7, 60);
        CHECK.due("16: the empty one is best now", fold.trialGap(), -99 + 60 + 60 * 4);
        CHECK.due("16: no base", new RnaFoldEnergy(3).trialGap(), 0);
    }

    private static void objectsAreApart() {
        RnaFoldEnergy one = Sequences.make(2, "GGAACC");
        RnaFoldEnergy other = Sequences.make(3, "AUA");
        one.setEnergy(6, -60);
        one.trialPair(0, 5);
        one.block(1, true);
        CHECK.due("1: another object's bases", other.length(), 3);
        CHECK.due("1: another object's energy", other.leastEnergy(), 0);
        CHECK.due("1: another object's trial", other.trialClear(), 0);
        CHECK.due("1: and this one's", one.trialClear(), 1);
    }
}
