import java.util.ArrayList;
import java.util.Arrays;
import java.util.HashSet;
import java.util.List;
import java.util.Set;

/** The document's words, done one ASSIGNMENT at a time: slow, and unlike the class in how it is held. */
final class Model {
    static final int REGISTERS = 32;

    int n;
    int capacity;
    boolean[][] registers;
    List<Integer> order;
    int[] costs;
    boolean[] pointer;

    Model() {
        fresh(6, 2000);
    }

    boolean fresh(int letters, int room) {
        if (letters < 1 || letters > 12 || room < 0 || room > 20000) {
            return false;
        }
        n = letters;
        capacity = room;
        registers = new boolean[REGISTERS][1 << n];
        order = new ArrayList<>();
        for (int v = 0; v < n; v++) {
            order.add(v);
        }
        costs = new int[n];
        rest();
        return true;
    }

    int constant(int r, boolean yes) {
        if (noRegister(r)) {
            return -2;
        }
        boolean[] f = new boolean[1 << n];
        Arrays.fill(f, yes);
        return keep(r, f);
    }

    int letter(int r, int v) {
        if (noRegister(r) || noLetter(v)) {
            return -2;
        }
        boolean[] f = new boolean[1 << n];
        for (int x = 0; x < f.length; x++) {
            f[x] = bit(x, v);
        }
        return keep(r, f);
    }

    int join(int r, int a, int b, int table) {
        if (noRegister(r) || noRegister(a) || noRegister(b) || table < 0 || table > 15) {
            return -2;
        }
        boolean[] f = new boolean[1 << n];
        for (int x = 0; x < f.length; x++) {
            int row = (registers[a][x] ? 1 : 0) + (registers[b][x] ? 2 : 0);
            f[x] = bit(table, row);
        }
        return keep(r, f);
    }

    int fork(int r, int a, int b, int c) {
        if (noRegister(r) || noRegister(a) || noRegister(b) || noRegister(c)) {
            return -2;
        }
        boolean[] f = new boolean[1 << n];
        for (int x = 0; x < f.length; x++) {
            f[x] = registers[a][x] ? registers[b][x] : registers[c][x];
        }
        return keep(r, f);
    }

    int fix(int r, int a, int v, boolean one) {
        if (noRegister(r) || noRegister(a) || noLetter(v)) {
            return -2;
        }
        return keep(r, fixed(registers[a], v, one));
    }

    int put(int r, int a, int v, int b) {
        if (noRegister(r) || noRegister(a) || noLetter(v) || noRegister(b)) {
            return -2;
        }
        boolean[] f = new boolean[1 << n];
        for (int x = 0; x < f.length; x++) {
            f[x] = registers[a][with(x, v, registers[b][x])];
        }
        return keep(r, f);
    }

    int sum(int r, int a, int mask, boolean all) {
        if (noRegister(r) || noRegister(a) || mask < 0 || mask >= 1 << n) {
            return -2;
        }
        boolean[] f = new boolean[1 << n];
        for (int x = 0; x < f.length; x++) {
            boolean some = false;
            boolean every = true;
            // every y that differs from x by letters of the mask alone
            for (int part = mask; ; part = (part - 1) & mask) {
                boolean told = registers[a][(x & ~mask) | part];
                some |= told;
                every &= told;
                if (part == 0) {
                    break;
                }
            }
            f[x] = all ? every : some;
        }
        return keep(r, f);
    }

    int trade(int r, int a, int u, int v) {
        if (noRegister(r) || noRegister(a) || noLetter(u) || noLetter(v)) {
            return -2;
        }
        boolean[] f = new boolean[1 << n];
        for (int x = 0; x < f.length; x++) {
            f[x] = registers[a][with(with(x, u, bit(x, v)), v, bit(x, u))];
        }
        return keep(r, f);
    }

    int near(int r, int a, int c) {
        if (noRegister(r) || noRegister(a) || noRegister(c)) {
            return -2;
        }
        if (many(c) == 0) {
            return -3;
        }
        boolean[] f = new boolean[1 << n];
        for (int x = 0; x < f.length; x++) {
            f[x] = registers[a][nearest(x, registers[c])];
        }
        return keep(r, f);
    }

    int copy(int r, int a) {
        if (noRegister(r) || noRegister(a)) {
            return -2;
        }
        return keep(r, registers[a].clone());
    }

    int swap(int k) {
        if (k < 0 || k > n - 2) {
            return -2;
        }
        List<Integer> before = new ArrayList<>(order);
        order.add(k + 1, order.remove(k));
        if (forks(registers) > capacity) {
            order = before;
            return -8;
        }
        rest();
        return 0;
    }

    int sift(int v) {
        if (noLetter(v)) {
            return -2;
        }
        List<Integer> others = new ArrayList<>(order);
        others.remove(Integer.valueOf(v));
        List<Integer> bestOrder = null;
        int fewest = Integer.MAX_VALUE;
        for (int k = 0; k < n; k++) {
            order = new ArrayList<>(others);
            order.add(k, v);
            int forks = forks(registers);
            if (forks < fewest) {
                fewest = forks;
                bestOrder = order;
            }
        }
        order = bestOrder;
        rest();
        return order.indexOf(v);
    }

    int cost(int v, int cost) {
        if (noLetter(v) || cost < 0 || cost > 1000000) {
            return -2;
        }
        int before = costs[v];
        costs[v] = cost;
        return before;
    }

    int same(int a, int b) {
        if (noRegister(a) || noRegister(b)) {
            return -2;
        }
        return Arrays.equals(registers[a], registers[b]) ? 1 : 0;
    }

    int tells(int a, int x) {
        if (noRegister(a) || x < 0 || x >= 1 << n) {
            return -2;
        }
        return registers[a][x] ? 1 : 0;
    }

    int many(int a) {
        return noRegister(a) ? -2 : yesOf(registers[a]).size();
    }

    int pick(int a, int i) {
        if (noRegister(a)) {
            return -2;
        }
        List<Integer> yes = yesOf(registers[a]);
        return i < 0 || i >= yes.size() ? -1 : yes.get(i);
    }

    int cheapest(int a) {
        if (noRegister(a)) {
            return -2;
        }
        int best = -1;
        for (int x : yesOf(registers[a])) {
            if (best < 0 || costOf(x) < costOf(best)) {
                best = x;
            }
        }
        return best;
    }

    int dearest(int a) {
        if (noRegister(a)) {
            return -2;
        }
        int greatest = -1;
        for (int x : yesOf(registers[a])) {
            greatest = Math.max(greatest, costOf(x));
        }
        return greatest;
    }

    int letters(int a) {
        if (noRegister(a)) {
            return -2;
        }
        int mask = 0;
        for (int v = 0; v < n; v++) {
            if (differs(registers[a], v)) {
                mask |= 1 << v;
            }
        }
        return mask;
    }

    int size(int a) {
        return noRegister(a) ? -2 : forks(registers[a]);
    }

    int width(int a, int level) {
        return noRegister(a) || noLetter(level) ? -2 : widthAt(level, allToldByOrder(registers[a]));
    }

    int point(int a) {
        if (noRegister(a)) {
            return -2;
        }
        pointer = registers[a].clone();
        return 0;
    }

    boolean go(boolean high) {
        for (int v : order) {
            if (differs(pointer, v)) {
                pointer = fixed(pointer, v, high);
                return true;
            }
        }
        return false;
    }

    int at() {
        for (int v : order) {
            if (differs(pointer, v)) {
                return v;
            }
        }
        return pointer[0] ? -3 : -2;
    }

    int level(int k, int what) {
        if (noLetter(k) || what < 0 || what > 1) {
            return -1;
        }
        return what == 0 ? order.get(k) : widthAt(k, allToldByOrder(registers));
    }

    int count(int what) {
        int unsettled = 0;
        for (int r = 0; r < REGISTERS; r++) {
            unsettled += many(r) != 0 && many(r) != 1 << n ? 1 : 0;
        }
        return what == 0 ? n : what == 1 ? capacity : what == 2 ? forks(registers) : what == 3 ? unsettled : -1;
    }

    private int keep(int r, boolean[] f) {
        boolean[] before = registers[r];
        registers[r] = f;
        // what cannot be too much is not counted, so that long runs end soon
        if (capacity < 16606 && forks(registers) > capacity) {
            registers[r] = before;
            return -8;
        }
        rest();
        return 0;
    }

    private void rest() {
        pointer = new boolean[1 << n];
    }

    private int forks(boolean[]... functions) {
        String[] told = allToldByOrder(functions);
        int sum = 0;
        for (int k = 0; k < n; k++) {
            sum += widthAt(k, told);
        }
        return sum;
    }

    private int widthAt(int k, String[] told) {
        Set<String> forks = new HashSet<>();
        int length = 1 << n - k;
        for (String all : told) {
            for (int start = 0; start < all.length(); start += length) {
                String part = all.substring(start, start + length);
                if (!part.regionMatches(0, part, length / 2, length / 2)) {
                    forks.add(part);
                }
            }
        }
        return forks.size();
    }

    private String[] allToldByOrder(boolean[]... functions) {
        String[] told = new String[functions.length];
        for (int i = 0; i < told.length; i++) {
            told[i] = toldByOrder(functions[i]);
        }
        return told;
    }

    /** What a FUNCTION tells of all ASSIGNMENTS, those told first that have the first LEVELS' LETTERS 0. */
    private String toldByOrder(boolean[] f) {
        StringBuilder told = new StringBuilder();
        tellBelow(f, 0, 0, told);
        return told.toString();
    }

    private void tellBelow(boolean[] f, int k, int x, StringBuilder told) {
        if (k == n) {
            told.append(f[x] ? '1' : '0');
        } else {
            tellBelow(f, k + 1, with(x, order.get(k), false), told);
            tellBelow(f, k + 1, with(x, order.get(k), true), told);
        }
    }

    private int nearest(int x, boolean[] c) {
        List<Integer> left = yesOf(c);
        for (int v : order) {
            List<Integer> stay = new ArrayList<>();
            for (int y : left) {
                if (bit(y, v) == bit(x, v)) {
                    stay.add(y);
                }
            }
            left = stay.isEmpty() ? left : stay;
        }
        return left.get(0);
    }

    private int costOf(int x) {
        int cost = 0;
        for (int v = 0; v < n; v++) {
            cost += bit(x, v) ? costs[v] : 0;
        }
        return cost;
    }

    private List<Integer> yesOf(boolean[] f) {
        List<Integer> yes = new ArrayList<>();
        for (int x = 0; x < f.length; x++) {
            if (f[x]) {
                yes.add(x);
            }
        }
        return yes;
    }

    private boolean[] fixed(boolean[] f, int v, boolean one) {
        boolean[] g = new boolean[f.length];
        for (int x = 0; x < f.length; x++) {
            g[x] = f[with(x, v, one)];
        }
        return g;
    }

    private boolean differs(boolean[] f, int v) {
        return !Arrays.equals(fixed(f, v, false), fixed(f, v, true));
    }

    private static boolean bit(int x, int v) {
        return (x >> v & 1) != 0;
    }

    private static int with(int x, int v, boolean one) {
        return one ? x | 1 << v : x & ~(1 << v);
    }

    private static boolean noRegister(int r) {
        return r < 0 || r >= REGISTERS;
    }

    private boolean noLetter(int v) {
        return v < 0 || v >= n;
    }
}
