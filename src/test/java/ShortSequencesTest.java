/**
 * All sequences of up to six bases, for each m, compared with DocumentModel; once with the first
 * energy terms, and once with terms so small that many structures have the same energy.
 */
public final class ShortSequencesTest {
    private static final int MOST = 6;
    private static final int[] SMALL = {-1, 0, -1, 0, -1, 1, -1, 0, 1, -1, 0, -1, 1, 0, 0, -1, 1};

    private static final Check CHECK = new Check();

    public static void main(String[] args) {
        for (int m = 2; m <= 4; m++) {
            for (int n = 0; n <= MOST; n++) {
                for (int number = 0; number < 1 << 2 * n; number++) {
                    compare(m, n, number, false);
                    compare(m, n, number, true);
                }
            }
        }
        CHECK.finish();
    }

    /** The bases are the digits of the number, four being the base of the digits. */
    private static void compare(int m, int n, int number, boolean small) {
        RnaFoldEnergy got = new RnaFoldEnergy(m);
        DocumentModel want = new DocumentModel(m);
        StringBuilder letters = new StringBuilder("m = " + m + (small ? ", small terms, " : ", first terms, "));
        for (int p = 0; p < n; p++) {
            int base = number >> 2 * p & 3;
            got.addBase(base);
            want.addBase(base);
            letters.append("ACGU".charAt(base));
        }
        for (int which = 0; small && which <= 16; which++) {
            got.setEnergy(which, SMALL[which]);
            want.setEnergy(which, SMALL[which]);
        }
        ask(letters.append(' ').toString(), n, got, want);
    }

    private static void ask(String at, int n, RnaFoldEnergy got, DocumentModel want) {
        CHECK.due(at + "leastEnergy()", got.leastEnergy(), want.leastEnergy());
        CHECK.due(at + "structures()", got.structures(), want.structures());
        for (int k = 0; k <= 7; k++) {
            CHECK.due(at + "atGap(" + k + ")", got.atGap(k), want.atGap(k));
        }
        for (int i = 0; i < n; i++) {
            CHECK.due(at + "partner(" + i + ")", got.partner(i), want.partner(i));
            for (int j = i + 1; j < n; j++) {
                String pair = "(" + i + ", " + j + ")";
                CHECK.due(at + "canPair" + pair, got.canPair(i, j), want.canPair(i, j));
                CHECK.due(at + "needed" + pair, got.needed(i, j), want.needed(i, j));
                CHECK.due(at + "optimaWith" + pair, got.optimaWith(i, j), want.optimaWith(i, j));
            }
        }
    }
}
