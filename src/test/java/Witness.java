import java.util.function.Supplier;

/**
 * Tells, as a text, all that can be found out about an object: two objects that are to be in the
 * same state must give the same text. Some questions change the object, so each group of them
 * has an object of its own, made anew, which also keeps each below the 512 calls of the document.
 * The maker's objects have m = 2, or the structures that show the energy terms can't be built.
 */
final class Witness {
    private Witness() {
    }

    static String of(Supplier<RnaFoldEnergy> maker) {
        return answers(maker.get()) + trial(maker.get()) + room(maker.get()) + bases(maker.get())
            + terms(maker.get());
    }

    private static String answers(RnaFoldEnergy fold) {
        StringBuilder text = new StringBuilder("answers");
        int n = fold.length();
        tell(text, n, fold.leastEnergy(), fold.structures(), fold.trialGap());
        for (int k = 0; k <= 7; k++) {
            tell(text, fold.atGap(k));
        }
        for (int i = 0; i < n; i++) {
            tell(text, fold.partner(i));
            for (int j = i + 1; j < n; j++) {
                tell(text, fold.canPair(i, j) ? 1 : 0, fold.needed(i, j) ? 1 : 0, fold.optimaWith(i, j));
            }
        }
        return text.append('\n').toString();
    }

    /** Dropping bases takes the trial's pairs away one by one, each with its energy. */
    private static String trial(RnaFoldEnergy fold) {
        StringBuilder text = new StringBuilder("trial");
        for (int n = fold.length(); n > 0; n--) {
            tell(text, Sequences.trialEnergy(fold), fold.dropBase());
        }
        return text.append('\n').toString();
    }

    /** Which pairs the trial still has room for. */
    private static String room(RnaFoldEnergy fold) {
        StringBuilder text = new StringBuilder("room");
        for (int i = 0; i < fold.length(); i++) {
            for (int j = i + 1; j < fold.length(); j++) {
                tell(text, fold.trialPair(i, j));
            }
        }
        return text.append('\n').toString();
    }

    private static String bases(RnaFoldEnergy fold) {
        StringBuilder text = new StringBuilder("bases");
        tell(text, fold.trialClear());
        for (int n = fold.length(); n > 0; n--) {
            tell(text, fold.dropBase());
        }
        tell(text, fold.dropBase());
        return text.append('\n').toString();
    }

    /** Three structures in whose energies each of E0 to E16 counts at least once. */
    private static String terms(RnaFoldEnergy fold) {
        return "terms" + energy(fold, "GGAAGGAAUUUUCC", "((((((..))))))")
            + energy(fold, "GGAGAAGAACACUC", "((.(..(..).)))")
            + energy(fold, "GGAACAGAACAAAC", "((..).(..)...)") + '\n';
    }

    private static String energy(RnaFoldEnergy fold, String letters, String brackets) {
        for (int n = fold.length(); n > 0; n--) {
            fold.dropBase();
        }
        Sequences.add(fold, letters);
        int pairs = Sequences.buildTrial(fold, brackets);
        return " " + pairs + " " + Sequences.trialEnergy(fold);
    }

    private static void tell(StringBuilder text, int... answers) {
        for (int answer : answers) {
            text.append(' ').append(answer);
        }
    }
}
