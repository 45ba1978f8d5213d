/**
 * The energies of the loops. With one energy term 1 and all others 0 the least energy is 0 (no
 * term is ever taken away), so trialGap() tells how often that term counts in the trial.
 */
public final class EnergyTermsTest {
    private static final Check CHECK = new Check();

    /** want is pairs of: term, how often it counts; terms that aren't named count 0 times. */
    private static void counts(String sequence, String brackets, int... want) {
        int[] due = new int[17];
        for (int w = 0; w < want.length; w += 2) {
            due[want[w]] = want[w + 1];
        }
        RnaFoldEnergy fold = Sequences.make(2, sequence);
        String of = sequence + " " + brackets;
        CHECK.due(of + " trial pairs", Sequences.buildTrial(fold, brackets), pairs(brackets));
        for (int one = 0; one <= 16; one++) {
            for (int which = 0; which <= 16; which++) {
                fold.setEnergy(which, which == one ? 1 : 0);
            }
            CHECK.due(of + " E" + one, fold.trialGap(), due[one]);
        }
    }

    private static int pairs(String brackets) {
        return (int) brackets.chars().filter(c -> c == '(').count();
    }

    public static void main(String[] args) {
        nothing();
        hairpins();
        stacks();
        bulges();
        interiorLoops();
        multiloops();
        sideBySide();
        oneInsideAtItsEdges();
        numberInsideAtItsEdges();
        directlyInsideAtItsEdges();
        endsAtTheirEdges();
        firstValues();
        CHECK.finish();
    }

    private static void nothing() {
        counts("", "");
        counts("GGGAAACCC", ".........");
    }

    private static void hairpins() {
        counts("GAAC", "(..)", 6, 1, 7, 2);
        counts("CAAG", "(..)", 6, 1, 7, 2);
        counts("AGCCCU", "(....)", 6, 1, 7, 4, 16, 2);
        counts("UCCA", "(..)", 6, 1, 7, 2, 16, 2);
        counts("GAAU", "(..)", 6, 1, 7, 2, 16, 2);
        counts("UAAG", "(..)", 6, 1, 7, 2, 16, 2);
        counts("CCGAAACUU", "..(...)..", 6, 1, 7, 3);
        counts("GAAAAAAAAAAAAC", "(............)", 6, 1, 7, 12);
    }

    /** The inner pair's end counts in its hairpin, the outer one's as that of an outermost pair. */
    private static void stacks() {
        counts("GCAAGC", "((..))", 0, 1, 6, 1, 7, 2);
        counts("GGAACC", "((..))", 0, 1, 6, 1, 7, 2);
        counts("GAAAUC", "((..))", 1, 1, 6, 1, 7, 2, 16, 1);
        counts("AGAACU", "((..))", 1, 1, 6, 1, 7, 2, 16, 1);
        counts("UCAAGA", "((..))", 1, 1, 6, 1, 7, 2, 16, 1);
        counts("GUAAGC", "((..))", 2, 1, 6, 1, 7, 2, 16, 1);
        counts("UGAACG", "((..))", 2, 1, 6, 1, 7, 2, 16, 1);
        counts("GCAAGU", "((..))", 2, 1, 6, 1, 7, 2, 16, 1);
        counts("AAGGUU", "((..))", 3, 1, 6, 1, 7, 2, 16, 2);
        counts("AUGGAU", "((..))", 3, 1, 6, 1, 7, 2, 16, 2);
        counts("AGCCUU", "((..))", 4, 1, 6, 1, 7, 2, 16, 2);
        counts("GACCUU", "((..))", 4, 1, 6, 1, 7, 2, 16, 2);
        counts("UUCCGA", "((..))", 4, 1, 6, 1, 7, 2, 16, 2);
        counts("GGCCUU", "((..))", 5, 1, 6, 1, 7, 2, 16, 2);
        counts("GUCCGU", "((..))", 5, 1, 6, 1, 7, 2, 16, 2);
        counts("GGGGGGAACCCCCC", "((((((..))))))", 0, 5, 6, 1, 7, 2);
    }

    private static void bulges() {
        counts("GAGAACC", "(.(..))", 6, 1, 7, 2, 8, 1, 9, 1);
        counts("GGAACAC", "((..).)", 6, 1, 7, 2, 8, 1, 9, 1);
        counts("GAAAGAACC", "(...(..))", 6, 1, 7, 2, 8, 1, 9, 3);
        counts("GGAACAAAC", "((..)...)", 6, 1, 7, 2, 8, 1, 9, 3);
        counts("ACGAACU", "(.(..))", 6, 1, 7, 2, 8, 1, 9, 1, 16, 2);
        counts("GCAAAUC", "(.(..))", 6, 1, 7, 2, 8, 1, 9, 1, 16, 2);
        counts("GUCCGCU", "((..).)", 6, 1, 7, 2, 8, 1, 9, 1, 16, 4);
    }

    private static void interiorLoops() {
        counts("GAGAACAC", "(.(..).)", 6, 1, 7, 2, 10, 1, 11, 2);
        counts("GAAGAACAAC", "(..(..)..)", 6, 1, 7, 2, 10, 1, 11, 4);
        counts("GAAAGAACAC", "(...(..).)", 6, 1, 7, 2, 10, 1, 11, 4, 12, 2);
        counts("GAGAACAAAC", "(.(..)...)", 6, 1, 7, 2, 10, 1, 11, 4, 12, 2);
        counts("GAAAAAAAGAACAC", "(.......(..).)", 6, 1, 7, 2, 10, 1, 11, 8, 12, 6);
        counts("ACGAACCU", "(.(..).)", 6, 1, 7, 2, 10, 1, 11, 2, 16, 2);
        counts("GCAAAUCC", "(.(..).)", 6, 1, 7, 2, 10, 1, 11, 2, 16, 2);
        counts("UCUCCGCA", "(.(..).)", 6, 1, 7, 2, 10, 1, 11, 2, 16, 4);
    }

    private static void multiloops() {
        counts("GGAACGAACC", "((..)(..))", 6, 2, 7, 4, 13, 1, 14, 3);
        counts("GAGAACAGAACAC", "(.(..).(..).)", 6, 2, 7, 4, 13, 1, 14, 3, 15, 3);
        counts("GGAACGAACAAAAC", "((..)(..)....)", 6, 2, 7, 4, 13, 1, 14, 3, 15, 4);
        counts("GGAACGAACGAACC", "((..)(..)(..))", 6, 3, 7, 6, 13, 1, 14, 4);
        counts("AGAACGAACU", "((..)(..))", 6, 2, 7, 4, 13, 1, 14, 3, 16, 2);
        counts("GAAAUGCCUC", "((..)(..))", 6, 2, 7, 4, 13, 1, 14, 3, 16, 4);
        counts("GGGAACCGAACC", "(((..))(..))", 0, 1, 6, 2, 7, 4, 13, 1, 14, 3);
        counts("GGGGAACGAACCCC", "((((..)(..))))",
            0, 2, 6, 2, 7, 4, 13, 1, 14, 3);
    }

    private static void sideBySide() {
        counts("GAACGAAC", "(..)(..)", 6, 2, 7, 4);
        counts("AGGUACCU", "(..)(..)", 6, 2, 7, 4, 16, 4);
        counts("AGGUAGAACAUGGA", "(..).(..).(..)", 6, 3, 7, 6, 16, 4);
        counts("AAGGUUCCGGAACC", "((..))..((..))", 0, 1, 3, 1, 6, 2, 7, 4, 16, 2);
    }

    /** "x = y = 0: a stack", "just one of x, y is 0: a bulge", "neither is 0: an interior loop": all x and y that 14 bases allow. */
    private static void oneInsideAtItsEdges() {
        for (int x = 0; x <= 8; x++) {
            for (int y = 0; x + y <= 8; y++) {
                String letters = "G" + "A".repeat(x) + "GAAC" + "A".repeat(y) + "C";
                String brackets = "(" + ".".repeat(x) + "(..)" + ".".repeat(y) + ")";
                if (x == 0 && y == 0) {
                    counts(letters, brackets, 6, 1, 7, 2, 0, 1);
                } else if (x == 0 || y == 0) {
                    counts(letters, brackets, 6, 1, 7, 2, 8, 1, 9, x + y);
                } else {
                    counts(letters, brackets, 6, 1, 7, 2, 10, 1, 11, x + y, 12, Math.max(x, y) - Math.min(x, y));
                }
            }
        }
    }

    /** "a = 0: a hairpin", "a = 1", "a >= 2: a multiloop": none to three inside, the most that 14 bases allow. */
    private static void numberInsideAtItsEdges() {
        counts("GAAAAAAAAAAAAC", "(............)", 6, 1, 7, 12);
        counts("GGAACAAAAAAAAC", "((..)........)", 6, 1, 7, 2, 8, 1, 9, 8);
        counts("GGAACGAACAAAAC", "((..)(..)....)", 6, 2, 7, 4, 13, 1, 14, 3, 15, 4);
        counts("GGAACGAACGAACC", "((..)(..)(..))", 6, 3, 7, 6, 13, 1, 14, 4);
    }

    /** "no third pair (p, q) has i < p < k and l < q < j": what lies deeper counts in no other loop. */
    private static void directlyInsideAtItsEdges() {
        counts("GGGAACCC", "(((..)))", 0, 2, 6, 1, 7, 2);
        counts("GGAGAACACC", "((.(..).))", 0, 1, 6, 1, 7, 2, 10, 1, 11, 2);
        counts("GGGAACGAACCC", "(((..)(..)))", 0, 1, 6, 2, 7, 4, 13, 1, 14, 3);
        counts("GAGAGAACACAC", "(.(.(..).).)", 6, 1, 7, 2, 10, 2, 11, 4);
    }

    /** "A pair that lies inside no other pair adds end(i, j) once more": weak pairs inside strong ones and beside them. */
    private static void endsAtTheirEdges() {
        counts("ACCU", "(..)", 6, 1, 7, 2, 16, 2);
        counts("GACCUC", "((..))", 1, 1, 6, 1, 7, 2, 16, 1);
        counts("GACCUAC", "((..).)", 6, 1, 7, 2, 8, 1, 9, 1, 16, 2);
        counts("ACCUGAAC", "(..)(..)", 6, 2, 7, 4, 16, 2);
        counts("GAACACCU", "(..)(..)", 6, 2, 7, 4, 16, 2);
        counts("GACCUACCUC", "((..)(..))", 6, 2, 7, 4, 13, 1, 14, 3, 16, 4);
    }

    /** With the first values; GCAAGC's best structure has a positive energy, so the least is 0. */
    private static void firstValues() {
        energyAtFirst("GCAAGC", "((..))", -33 + 38 + 3 * 2);
        energyAtFirst("GAAAUC", "((..))", -22 + 38 + 3 * 2 + 5);
        energyAtFirst("GUAAGC", "((..))", -15 + 38 + 3 * 2 + 5);
        energyAtFirst("AAGGUU", "((..))", -11 + 38 + 3 * 2 + 5 * 2);
        energyAtFirst("AGCCUU", "((..))", -9 + 38 + 3 * 2 + 5 * 2);
        energyAtFirst("GGCCUU", "((..))", -5 + 38 + 3 * 2 + 5 * 2);
        energyAtFirst("GAGAACC", "(.(..))", 28 + 4 + 38 + 3 * 2);
        energyAtFirst("GAAGAACAC", "(..(..).)", 12 + 3 * 3 + 5 + 38 + 3 * 2);
        energyAtFirst("GAGAACGAACC", "(.(..)(..))", 34 + 4 * 3 + 0 + 2 * (38 + 3 * 2));
    }

    private static void energyAtFirst(String sequence, String brackets, int want) {
        RnaFoldEnergy fold = Sequences.make(2, sequence);
        String of = sequence + " " + brackets;
        CHECK.due(of + " leastEnergy()", fold.leastEnergy(), 0);
        CHECK.due(of + " trial pairs", Sequences.buildTrial(fold, brackets), pairs(brackets));
        CHECK.due(of + " trialGap()", fold.trialGap(), want);
    }
}
