import java.util.ArrayList;
import java.util.List;

/**
 * The document's words turned into code as literally as possible, slow and with no thought of
 * how RnaFoldEnergy does it: structures are sets of pairs, checked two by two, and 'directly
 * inside' is asked with a search for a third pair.
 */
final class DocumentModel {
    private final int m;
    private final List<Integer> bases = new ArrayList<>();
    private final List<Boolean> blocks = new ArrayList<>();
    private final int[] e = {-33, -22, -15, -11, -9, -5, 38, 3, 28, 4, 12, 3, 5, 34, 4, 0, 5};
    private List<int[]> trial = new ArrayList<>();

    private List<List<int[]>> all = null;
    private int[] energies = null;

    DocumentModel(int minimum) {
        m = Math.max(2, Math.min(4, minimum));
    }

    int addBase(int base) {
        if (bases.size() == 14) return -1;
        if (base < 0 || base > 3) return -2;
        bases.add(base);
        blocks.add(false);
        forget();
        return bases.size();
    }

    int dropBase() {
        if (bases.isEmpty()) return -2;
        int last = bases.size() - 1;
        takeFromTrial(last);
        blocks.remove(last);
        forget();
        return bases.remove(last);
    }

    int length() {
        return bases.size();
    }

    boolean block(int i, boolean on) {
        if (i < 0 || i >= bases.size()) return false;
        blocks.set(i, on);
        if (on) takeFromTrial(i);
        forget();
        return true;
    }

    boolean setEnergy(int which, int value) {
        if (which < 0 || which > 16 || value < -60 || value > 60) return false;
        e[which] = value;
        forget();
        return true;
    }

    boolean canPair(int i, int j) {
        if (!(0 <= i && i < j && j < bases.size())) return false;
        return j - i - 1 >= m && !blocks.get(i) && !blocks.get(j) && kind(i, j) != '-';
    }

    int leastEnergy() {
        list();
        int least = 0;
        for (int energy : energies) least = Math.min(least, energy);
        return least;
    }

    int structures() {
        list();
        return all.size();
    }

    int atGap(int k) {
        if (k < 0 || k > 7) return -2;
        int wanted = leastEnergy() + k;
        int count = 0;
        for (int energy : energies) if (energy == wanted) count++;
        return count;
    }

    int partner(int i) {
        if (i < 0 || i >= bases.size()) return -2;
        int least = leastEnergy();
        List<int[]> best = null;
        for (int s = 0; s < energies.length; s++) {
            if (energies[s] == least && (best == null || better(all.get(s), best))) best = all.get(s);
        }
        return partnerIn(best, i);
    }

    boolean needed(int i, int j) {
        if (!canPair(i, j)) return false;
        int least = leastEnergy();
        for (int s = 0; s < energies.length; s++) {
            if (energies[s] == least && !has(all.get(s), i, j)) return false;
        }
        return true;
    }

    int optimaWith(int i, int j) {
        if (!canPair(i, j)) return 0;
        int least = leastEnergy();
        int count = 0;
        for (int s = 0; s < energies.length; s++) {
            if (energies[s] == least && has(all.get(s), i, j)) count++;
        }
        return count;
    }

    int trialPair(int i, int j) {
        if (!canPair(i, j)) return -2;
        if (has(trial, i, j)) return -3;
        List<int[]> with = new ArrayList<>(trial);
        with.add(new int[] {i, j});
        if (!isStructure(with)) return -3;
        trial = with;
        return trial.size();
    }

    int trialClear() {
        int taken = trial.size();
        trial = new ArrayList<>();
        return taken;
    }

    int trialGap() {
        return energy(trial) - leastEnergy();
    }

    private void forget() {
        all = null;
        energies = null;
    }

    private void takeFromTrial(int base) {
        trial.removeIf(pair -> pair[0] == base || pair[1] == base);
    }

    private char kind(int i, int j) {
        String two = "" + "ACGU".charAt(bases.get(i)) + "ACGU".charAt(bases.get(j));
        switch (two) {
            case "GC": case "CG": return 's';
            case "AU": case "UA": return 'w';
            case "GU": case "UG": return 'o';
            default: return '-';
        }
    }

    private int end(int[] pair) {
        return kind(pair[0], pair[1]) == 's' ? 0 : e[16];
    }

    private static boolean has(List<int[]> structure, int i, int j) {
        for (int[] pair : structure) if (pair[0] == i && pair[1] == j) return true;
        return false;
    }

    private static int partnerIn(List<int[]> structure, int i) {
        for (int[] pair : structure) {
            if (pair[0] == i) return pair[1];
            if (pair[1] == i) return pair[0];
        }
        return -3;
    }

    private boolean better(List<int[]> one, List<int[]> other) {
        for (int i = 0; i < bases.size(); i++) {
            int p = partnerIn(one, i);
            int q = partnerIn(other, i);
            if (p != q) return q == -3 || (p != -3 && p < q);
        }
        return false;
    }

    private boolean isStructure(List<int[]> pairs) {
        for (int[] one : pairs) {
            if (!canPair(one[0], one[1])) return false;
            for (int[] other : pairs) if (one != other && clash(one, other)) return false;
        }
        return true;
    }

    private static boolean clash(int[] one, int[] other) {
        int i = one[0], j = one[1], k = other[0], l = other[1];
        return i == k || i == l || j == k || j == l || (i < k && k < j && j < l) || (k < i && i < l && l < j);
    }

    private void list() {
        if (all != null) return;
        List<int[]> pairs = new ArrayList<>();
        for (int i = 0; i < bases.size(); i++) {
            for (int j = 0; j < bases.size(); j++) if (canPair(i, j)) pairs.add(new int[] {i, j});
        }
        all = new ArrayList<>();
        all.add(new ArrayList<>());
        for (int[] pair : pairs) {
            int before = all.size();
            for (int s = 0; s < before; s++) {
                boolean clashes = false;
                for (int[] other : all.get(s)) clashes |= clash(pair, other);
                if (!clashes) {
                    List<int[]> with = new ArrayList<>(all.get(s));
                    with.add(pair);
                    all.add(with);
                }
            }
        }
        energies = new int[all.size()];
        for (int s = 0; s < energies.length; s++) energies[s] = energy(all.get(s));
    }

    private static boolean directlyInside(List<int[]> structure, int[] in, int[] out) {
        if (!(out[0] < in[0] && in[1] < out[1])) return false;
        for (int[] third : structure) {
            if (out[0] < third[0] && third[0] < in[0] && in[1] < third[1] && third[1] < out[1]) return false;
        }
        return true;
    }

    private int energy(List<int[]> structure) {
        int sum = 0;
        for (int[] pair : structure) {
            sum += loop(structure, pair);
            boolean inside = false;
            for (int[] other : structure) inside |= other[0] < pair[0] && pair[1] < other[1];
            if (!inside) sum += end(pair);
        }
        return sum;
    }

    private int loop(List<int[]> structure, int[] pair) {
        List<int[]> inside = new ArrayList<>();
        for (int[] other : structure) if (directlyInside(structure, other, pair)) inside.add(other);
        int a = inside.size();
        int u = 0;
        for (int p = pair[0] + 1; p < pair[1]; p++) {
            boolean counts = partnerIn(structure, p) == -3;
            for (int[] in : inside) counts &= !(in[0] < p && p < in[1]);
            if (counts) u++;
        }
        if (a == 0) return e[6] + e[7] * u + end(pair);
        if (a == 1) {
            int[] in = inside.get(0);
            int x = in[0] - pair[0] - 1;
            int y = pair[1] - in[1] - 1;
            if (x == 0 && y == 0) return stack(kind(pair[0], pair[1]), kind(in[0], in[1]));
            if (x == 0 || y == 0) return e[8] + e[9] * u + end(pair) + end(in);
            return e[10] + e[11] * u + e[12] * (Math.max(x, y) - Math.min(x, y)) + end(pair) + end(in);
        }
        int sum = e[13] + e[14] * (a + 1) + e[15] * u + end(pair);
        for (int[] in : inside) sum += end(in);
        return sum;
    }

    private int stack(char one, char other) {
        switch ("" + one + other) {
            case "ss": return e[0];
            case "sw": case "ws": return e[1];
            case "so": case "os": return e[2];
            case "ww": return e[3];
            case "wo": case "ow": return e[4];
            default: return e[5];
        }
    }
}
