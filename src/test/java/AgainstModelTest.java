/**
 * Long runs of calls, drawn from a fixed sequence of numbers, each answer compared with that of
 * DocumentModel. The draws go a little beyond every range, so that wrong inputs come up too.
 */
public final class AgainstModelTest {
    private static final int RUNS = 1200;
    private static final int CALLS = 120;

    private static final Check CHECK = new Check();
    private static long seed;

    private static int draw(int low, int high) {
        seed = seed * 6364136223846793005L + 1442695040888963407L;
        return low + (int) ((seed >>> 33) % (high - low + 1));
    }

    public static void main(String[] args) {
        for (int run = 0; run < RUNS && CHECK.wrong() == 0; run++) {
            seed = run * 7919L + 17;
            oneRun(run);
        }
        CHECK.finish();
    }

    private static void oneRun(int run) {
        int minimum = draw(0, 6);
        RnaFoldEnergy got = new RnaFoldEnergy(minimum);
        DocumentModel want = new DocumentModel(minimum);
        int style = draw(0, 4);
        String at = "run " + run + " (minimum " + minimum + ")";
        setEnergies(got, want, style);
        int filled = draw(0, 3) == 0 ? draw(0, 14) : draw(10, 14);
        for (int n = 0; n < filled; n++) {
            int base = drawBase(style);
            CHECK.due(at + " addBase(" + base + ")", got.addBase(base), want.addBase(base));
        }
        if (run % 4 == 0) {
            askEverything(at, got, want, run / 4 % 3);
        }
        for (int call = 0; call < CALLS && CHECK.wrong() == 0; call++) {
            oneCall(at + " call " + call + " ", got, want, style);
        }
    }

    /** Small terms make many structures equal in energy, great ones make unlikely loops win. */
    private static void setEnergies(RnaFoldEnergy got, DocumentModel want, int style) {
        int bound = style == 0 ? -1 : style == 1 ? 0 : style == 2 ? 1 : style == 3 ? 10 : 60;
        for (int which = 0; which <= 16 && bound >= 0; which++) {
            int value = draw(-bound, bound);
            CHECK.due("setEnergy", got.setEnergy(which, value), want.setEnergy(which, value));
        }
    }

    private static int drawBase(int style) {
        return style % 2 == 0 ? draw(0, 3) : draw(0, 9) < 8 ? draw(2, 3) : draw(0, 1);
    }

    private static void oneCall(String at, RnaFoldEnergy got, DocumentModel want, int style) {
        int i = draw(-1, want.length());
        int j = draw(-1, want.length());
        if (i > j && draw(0, 9) > 0) {
            int t = i;
            i = j;
            j = t;
        }
        String pair = "(" + i + ", " + j + ")";
        switch (draw(0, 17)) {
            case 0: { int b = draw(-1, 4); CHECK.due(at + "addBase(" + b + ")", got.addBase(b), want.addBase(b)); break; }
            case 1: case 2: { int b = drawBase(style); CHECK.due(at + "addBase(" + b + ")", got.addBase(b), want.addBase(b)); break; }
            case 3: CHECK.due(at + "dropBase()", got.dropBase(), want.dropBase()); break;
            case 4: CHECK.due(at + "length()", got.length(), want.length()); break;
            case 5: { boolean on = draw(0, 2) == 0; CHECK.due(at + "block(" + i + ", " + on + ")", got.block(i, on), want.block(i, on)); break; }
            case 6: { int w = draw(-1, 17); int v = draw(-62, 62); CHECK.due(at + "setEnergy(" + w + ", " + v + ")", got.setEnergy(w, v), want.setEnergy(w, v)); break; }
            case 7: CHECK.due(at + "canPair" + pair, got.canPair(i, j), want.canPair(i, j)); break;
            case 8: CHECK.due(at + "leastEnergy()", got.leastEnergy(), want.leastEnergy()); break;
            case 9: CHECK.due(at + "structures()", got.structures(), want.structures()); break;
            case 10: { int k = draw(-1, 8); CHECK.due(at + "atGap(" + k + ")", got.atGap(k), want.atGap(k)); break; }
            case 11: CHECK.due(at + "partner(" + i + ")", got.partner(i), want.partner(i)); break;
            case 12: CHECK.due(at + "needed" + pair, got.needed(i, j), want.needed(i, j)); break;
            case 13: CHECK.due(at + "optimaWith" + pair, got.optimaWith(i, j), want.optimaWith(i, j)); break;
            case 14: case 15: CHECK.due(at + "trialPair" + pair, got.trialPair(i, j), want.trialPair(i, j)); break;
            case 16: {
                if (draw(0, 3) == 0) CHECK.due(at + "trialClear()", got.trialClear(), want.trialClear());
                break;
            }
            default: CHECK.due(at + "trialGap()", got.trialGap(), want.trialGap()); break;
        }
    }

    /** One question about the pairs in each run, or the object would have more than its 512 calls. */
    private static void askEverything(String at, RnaFoldEnergy got, DocumentModel want, int question) {
        CHECK.due(at + " leastEnergy()", got.leastEnergy(), want.leastEnergy());
        CHECK.due(at + " structures()", got.structures(), want.structures());
        for (int k = -1; k <= 8; k++) {
            CHECK.due(at + " atGap(" + k + ")", got.atGap(k), want.atGap(k));
        }
        for (int i = -1; i <= want.length(); i++) {
            CHECK.due(at + " partner(" + i + ")", got.partner(i), want.partner(i));
            for (int j = -1; j <= want.length(); j++) {
                String pair = "(" + i + ", " + j + ")";
                switch (question) {
                    case 0: CHECK.due(at + " canPair" + pair, got.canPair(i, j), want.canPair(i, j)); break;
                    case 1: CHECK.due(at + " needed" + pair, got.needed(i, j), want.needed(i, j)); break;
                    default: CHECK.due(at + " optimaWith" + pair, got.optimaWith(i, j), want.optimaWith(i, j)); break;
                }
            }
        }
    }
}
