/** Sequences written as letters and structures written as brackets. */
final class Sequences {
    private Sequences() {
    }

    static RnaFoldEnergy make(int minimum, String letters) {
        RnaFoldEnergy fold = new RnaFoldEnergy(minimum);
        add(fold, letters);
        return fold;
    }

    static void add(RnaFoldEnergy fold, String letters) {
        for (char letter : letters.toCharArray()) {
            fold.addBase("ACGU".indexOf(letter));
        }
    }

    static int trialEnergy(RnaFoldEnergy fold) {
        return fold.trialGap() + fold.leastEnergy();
    }

    /** The last answer of trialPair, or 0 if there is no pair. */
    static int buildTrial(RnaFoldEnergy fold, String brackets) {
        int[] open = new int[brackets.length() + 1];
        int depth = 0;
        int answer = 0;
        for (int p = 0; p < brackets.length(); p++) {
            if (brackets.charAt(p) == '(') {
                open[depth++] = p;
            } else if (brackets.charAt(p) == ')') {
                answer = fold.trialPair(open[--depth], p);
            }
        }
        return answer;
    }

    /** The best structure as brackets, as partner() tells it. */
    static String best(RnaFoldEnergy fold) {
        StringBuilder text = new StringBuilder();
        for (int p = 0; p < fold.length(); p++) {
            int q = fold.partner(p);
            text.append(q == RnaFoldEnergy.NONE ? '.' : q > p ? '(' : q >= 0 ? ')' : '?');
        }
        return text.toString();
    }

    static void setAll(RnaFoldEnergy fold, int value) {
        for (int which = 0; which <= 16; which++) {
            fold.setEnergy(which, value);
        }
    }
}
