/**
 * Rule 7 of LANGUAGE.md, "No call may ever throw or fail to end, for any arguments in any state":
 * every call with numbers far and near outside its range, in states from empty to full. Such an
 * object has more than the document's 512 calls: its answers are free then, but it must answer.
 */
public final class AnyArgumentsTest {
    private static final int[] NUMBERS = {Integer.MIN_VALUE, Integer.MIN_VALUE + 1, -61, -60, -15, -14, -3, -2, -1,
        0, 1, 2, 3, 4, 5, 6, 7, 8, 9, 10, 11, 12, 13, 14, 15, 16, 17, 18, 60, 61, Integer.MAX_VALUE - 1,
        Integer.MAX_VALUE};

    private static final Check CHECK = new Check();

    public static void main(String[] args) {
        String[] sequences = {"", "G", "GAAC", "GGGAACCC", "GUGUGUGUGUGUG", "GGGGGGAACCCCCC", "GUGUGUGUGUGUGU"};
        for (int minimum : NUMBERS) {
            answers("new RnaFoldEnergy(" + minimum + ")", () -> new RnaFoldEnergy(minimum));
        }
        for (String letters : sequences) {
            questions(letters);
            changes(letters);
        }
        CHECK.finish();
    }

    private static void answers(String at, Runnable call) {
        String got = "";
        try {
            call.run();
        } catch (Throwable thrown) {
            got = thrown.toString();
        }
        CHECK.due(at, got, "");
    }

    private static void questions(String letters) {
        RnaFoldEnergy fold = Sequences.make(2, letters);
        fold.trialPair(1, 4);
        String at = letters + " ";
        answers(at + "questions", () -> askWithoutNumber(fold));
        for (int i : NUMBERS) {
            answers(at + "partner(" + i + ")", () -> fold.partner(i));
            answers(at + "atGap(" + i + ")", () -> fold.atGap(i));
            for (int j : NUMBERS) {
                String pair = "(" + i + ", " + j + ")";
                answers(at + "canPair" + pair, () -> fold.canPair(i, j));
                answers(at + "needed" + pair, () -> fold.needed(i, j));
                answers(at + "optimaWith" + pair, () -> fold.optimaWith(i, j));
            }
        }
    }

    private static void askWithoutNumber(RnaFoldEnergy fold) {
        fold.length();
        fold.leastEnergy();
        fold.structures();
        fold.trialGap();
    }

    private static void changes(String letters) {
        RnaFoldEnergy fold = Sequences.make(2, letters);
        String at = letters + " ";
        for (int i : NUMBERS) {
            answers(at + "addBase(" + i + ")", () -> fold.addBase(i));
            answers(at + "block(" + i + ", true)", () -> fold.block(i, true));
            answers(at + "then questions", () -> askWithoutNumber(fold));
            answers(at + "block(" + i + ", false)", () -> fold.block(i, false));
            for (int j : NUMBERS) {
                answers(at + "trialPair(" + i + ", " + j + ")", () -> fold.trialPair(i, j));
                answers(at + "setEnergy(" + i + ", " + j + ")", () -> fold.setEnergy(i, j));
            }
            answers(at + "then questions", () -> askWithoutNumber(fold));
            answers(at + "dropBase()", () -> fold.dropBase());
        }
        answers(at + "trialClear()", () -> fold.trialClear());
        for (int drop = 0; drop < 20; drop++) {
            answers(at + "dropBase()", () -> fold.dropBase());
            answers(at + "then questions", () -> askWithoutNumber(fold));
        }
    }
}
