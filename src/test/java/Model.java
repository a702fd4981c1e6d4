import java.util.ArrayDeque;
import java.util.ArrayList;
import java.util.Arrays;
import java.util.Deque;
import java.util.HashSet;
import java.util.List;
import java.util.Set;
import java.util.TreeMap;

/** The document once more, as slowly and as literally as it can be said; the class is held against it. */
final class Model {
    static final int BAD = -2, STATE = -3, FULL = -4, NONE = -9;

    private int size = 2;
    private int[][] f = firstOnes(2);
    private int[] g = itself(2);
    private final StringBuilder text = new StringBuilder();
    private final Deque<int[]> done = new ArrayDeque<>();
    private final List<Integer> seen = new ArrayList<>();
    private final int[][][] keptF = new int[2][][];
    private final int[][] keptG = new int[2][];

    private static int[][] firstOnes(int n) {
        int[][] all = new int[n][n];
        for (int x = 0; x < n; x++) {
            Arrays.fill(all[x], x);
        }
        return all;
    }

    private static int[] itself(int n) {
        int[] all = new int[n];
        for (int x = 0; x < n; x++) {
            all[x] = x;
        }
        return all;
    }

    private static int[][] copy(int[][] rows) {
        int[][] all = new int[rows.length][];
        for (int i = 0; i < rows.length; i++) {
            all[i] = rows[i].clone();
        }
        return all;
    }

    private boolean is(int x) {
        return 0 <= x && x < size;
    }

    int type(int letter) {
        if (letter < 0 || letter > 255) {
            return BAD;
        }
        if (text.length() == 60) {
            return FULL;
        }
        text.append((char) letter);
        return text.length();
    }

    int clear() {
        int n = text.length();
        text.setLength(0);
        return n;
    }

    /** Item by item: each is told as a whole by what may stand in it, token for token. */
    int tables() {
        String t = text.toString();
        int at = 0;
        int items = 0;
        int n = 2;
        int[][] newF = firstOnes(2);
        int[] newG = itself(2);
        while (true) {
            at = skip(t, at);
            if (at == t.length()) {
                break;
            }
            char head = t.charAt(at);
            if (head != 'f' && head != 'g' && (head != 'n' || items > 0)) {
                return -10 - at;
            }
            at = skip(t, at + 1);
            int wanted = head == 'n' ? 1 : head == 'g' ? n : n * n;
            int[] figures = new int[wanted];
            for (int i = 0; i < wanted; i++) {
                int least = head == 'n' ? 1 : 0;
                int most = head == 'n' ? 4 : n - 1;
                if (at == t.length() || t.charAt(at) < '0' + least || t.charAt(at) > '0' + most) {
                    return -10 - at;
                }
                figures[i] = t.charAt(at) - '0';
                at = skip(t, at + 1);
            }
            if (at == t.length() || t.charAt(at) != ';') {
                return -10 - at;
            }
            at++;
            items++;
            if (head == 'n') {
                n = figures[0];
                newF = firstOnes(n);
                newG = itself(n);
            } else if (head == 'g') {
                newG = figures;
            } else {
                for (int i = 0; i < n; i++) {
                    newF[i] = Arrays.copyOfRange(figures, i * n, i * n + n);
                }
            }
        }
        size = n;
        f = newF;
        g = newG;
        text.setLength(0);
        done.clear();
        seen.clear();
        Arrays.fill(keptF, null);
        Arrays.fill(keptG, null);
        return items;
    }

    private static int skip(String t, int at) {
        int to = at;
        while (to < t.length() && t.charAt(to) == ' ') {
            to++;
        }
        return to;
    }

    int f(int x, int y) {
        return is(x) && is(y) ? f[x][y] : BAD;
    }

    int g(int x) {
        return is(x) ? g[x] : BAD;
    }

    int sets(int x, int y, int c) {
        if (!is(x) || y != -1 && !is(y) || !is(c)) {
            return BAD;
        }
        int was = y == -1 ? g[x] : f[x][y];
        if (was == c) {
            return STATE;
        }
        put(x, y, c);
        done.addLast(new int[] {x, y, was});
        if (done.size() > 12) {
            done.removeFirst();
        }
        return was;
    }

    private void put(int x, int y, int c) {
        if (y == -1) {
            g[x] = c;
        } else {
            f[x][y] = c;
        }
    }

    int undo() {
        if (done.isEmpty()) {
            return STATE;
        }
        int[] last = done.removeLast();
        put(last[0], last[1], last[2]);
        return done.size();
    }

    private boolean closedSet(Set<Integer> set) {
        for (int x : set) {
            if (!set.contains(g[x])) {
                return false;
            }
            for (int y : set) {
                if (!set.contains(f[x][y])) {
                    return false;
                }
            }
        }
        return true;
    }

    private static Set<Integer> elements(int bits) {
        Set<Integer> set = new HashSet<>();
        for (int x = 0; x < 4; x++) {
            if ((bits >> x) % 2 == 1) {
                set.add(x);
            }
        }
        return set;
    }

    private List<Integer> closedSets() {
        List<Integer> all = new ArrayList<>();
        for (int bits = 0; bits < 1 << size; bits++) {
            if (closedSet(elements(bits))) {
                all.add(bits);
            }
        }
        return all;
    }

    /** What all CLOSED sets around it have in common. */
    int made(int set) {
        if (set < 0 || set >= 1 << size) {
            return BAD;
        }
        int common = (1 << size) - 1;
        for (int closed : closedSets()) {
            if ((closed & set) == set) {
                common &= closed;
            }
        }
        return common;
    }

    int closed(int k) {
        if (k < 0) {
            return BAD;
        }
        List<Integer> all = closedSets();
        return k < all.size() ? all.get(k) : NONE;
    }

    private int left(int law, int x, int y, int z) {
        return new int[] {
            f[x][x], f[x][y], f[f[x][y]][z], g[g[x]], g[f[x][y]], f[x][f[x][y]], f[x][g[x]]}[law];
    }

    private int right(int law, int x, int y, int z) {
        return new int[] {x, f[y][x], f[x][f[y][z]], x, f[g[y]][g[x]], f[x][y], f[y][g[y]]}[law];
    }

    int law(int law) {
        if (law < 0 || law > 6) {
            return BAD;
        }
        for (int x = 0; x < size; x++) {
            for (int y = 0; y < size; y++) {
                for (int z = 0; z < size; z++) {
                    if (left(law, x, y, z) != right(law, x, y, z)) {
                        return 100 * x + 10 * y + z;
                    }
                }
            }
        }
        return NONE;
    }

    int change(int law) {
        if (law < 0 || law > 6) {
            return BAD;
        }
        if (law(law) == NONE) {
            return -1;
        }
        int least = Integer.MAX_VALUE;
        for (int x = 0; x < size; x++) {
            for (int y = 0; y < size; y++) {
                int is = f[x][y];
                for (int c = 0; c < size; c++) {
                    f[x][y] = c;
                    if (c != is && law(law) == NONE) {
                        least = Math.min(least, 100 * x + 10 * y + c);
                    }
                }
                f[x][y] = is;
            }
        }
        return least == Integer.MAX_VALUE ? NONE : least;
    }

    /** NAME to relation; relations of all kinds are tried, not only those that are PARTITIONS. */
    private List<boolean[][]> congruences() {
        TreeMap<Integer, boolean[][]> byName = new TreeMap<>();
        int[] block = new int[size];
        int ways = (int) Math.pow(size, size);
        for (int way = 0; way < ways; way++) {
            for (int x = 0, rest = way; x < size; x++, rest /= size) {
                block[x] = rest % size;
            }
            boolean[][] with = new boolean[size][size];
            for (int x = 0; x < size; x++) {
                for (int y = 0; y < size; y++) {
                    with[x][y] = block[x] == block[y];
                }
            }
            if (along(with)) {
                byName.put(name(with), with);
            }
        }
        return new ArrayList<>(byName.values());
    }

    private int name(boolean[][] with) {
        StringBuilder name = new StringBuilder();
        for (int x = 0; x < size; x++) {
            int y = 0;
            while (!with[x][y]) {
                y++;
            }
            name.append(y);
        }
        return Integer.parseInt(name.toString());
    }

    private boolean along(boolean[][] with) {
        for (int x = 0; x < size; x++) {
            for (int y = 0; y < size; y++) {
                for (int z = 0; z < size; z++) {
                    if (with[x][y] && !(with[f[x][z]][f[y][z]] && with[f[z][x]][f[z][y]] && with[g[x]][g[y]])) {
                        return false;
                    }
                }
            }
        }
        return true;
    }

    private boolean finer(boolean[][] a, boolean[][] b) {
        for (int x = 0; x < size; x++) {
            for (int y = 0; y < size; y++) {
                if (a[x][y] && !b[x][y]) {
                    return false;
                }
            }
        }
        return true;
    }

    /** The number of the one that is finer (or coarser) than all the others that are allowed. */
    private int extreme(List<boolean[][]> all, List<boolean[][]> allowed, boolean finest) {
        for (boolean[][] one : allowed) {
            boolean best = true;
            for (boolean[][] other : allowed) {
                best &= finest ? finer(one, other) : finer(other, one);
            }
            if (best) {
                return all.indexOf(one);
            }
        }
        throw new IllegalStateException("there is no extreme one");
    }

    int congruence(int k) {
        if (k < 0) {
            return BAD;
        }
        List<boolean[][]> all = congruences();
        return k < all.size() ? name(all.get(k)) : NONE;
    }

    int principal(int x, int y) {
        if (!is(x) || !is(y)) {
            return BAD;
        }
        List<boolean[][]> all = congruences();
        List<boolean[][]> allowed = new ArrayList<>();
        for (boolean[][] one : all) {
            if (one[x][y]) {
                allowed.add(one);
            }
        }
        return extreme(all, allowed, true);
    }

    int pair(int a, int b, int what) {
        List<boolean[][]> all = congruences();
        if (a < 0 || a >= all.size() || b < 0 || b >= all.size() || what < 0 || what > 3) {
            return BAD;
        }
        boolean[][] first = all.get(a);
        boolean[][] second = all.get(b);
        if (what == 2) {
            return permute(first, second) ? 1 : 0;
        }
        if (what == 3) {
            return finer(first, second) ? 1 : 0;
        }
        List<boolean[][]> allowed = new ArrayList<>();
        for (boolean[][] one : all) {
            if (what == 0 ? finer(first, one) && finer(second, one) : finer(one, first) && finer(one, second)) {
                allowed.add(one);
            }
        }
        return extreme(all, allowed, what == 0);
    }

    private boolean permute(boolean[][] a, boolean[][] b) {
        for (int x = 0; x < size; x++) {
            for (int y = 0; y < size; y++) {
                for (int z = 0; z < size; z++) {
                    if (a[x][z] && b[z][y]) {
                        boolean other = false;
                        for (int w = 0; w < size; w++) {
                            other |= b[x][w] && a[w][y];
                        }
                        if (!other) {
                            return false;
                        }
                    }
                }
            }
        }
        return true;
    }

    /** One ROUND: all that there are, and f, g of them. */
    private Set<List<Integer>> next(Set<List<Integer>> rows) {
        Set<List<Integer>> more = new HashSet<>(rows);
        for (List<Integer> a : rows) {
            List<Integer> one = new ArrayList<>();
            for (int v : a) {
                one.add(g[v]);
            }
            more.add(one);
            for (List<Integer> b : rows) {
                List<Integer> two = new ArrayList<>();
                for (int i = 0; i < a.size(); i++) {
                    two.add(f[a.get(i)][b.get(i)]);
                }
                more.add(two);
            }
        }
        return more;
    }

    int free(int rank, int what) {
        if (rank < 1 || rank > 2 || what < 0 || what > 1) {
            return BAD;
        }
        List<Integer> first = new ArrayList<>();
        List<Integer> second = new ArrayList<>();
        for (int x = 0; x < size; x++) {
            for (int y = 0; y < (rank == 1 ? 1 : size); y++) {
                first.add(x);
                second.add(y);
            }
        }
        Set<List<Integer>> rows = new HashSet<>();
        rows.add(first);
        if (rank == 2) {
            rows.add(second);
        }
        for (int rounds = 0;; rounds++) {
            Set<List<Integer>> more = next(rows);
            if (more.size() > 200) {
                return FULL;
            }
            if (more.size() == rows.size()) {
                return what == 0 ? rows.size() : rounds;
            }
            rows = more;
        }
    }

    int term(int what) {
        if (what < 0 || what > 1 || size == 4) {
            return BAD;
        }
        List<List<Integer>> letters = List.of(new ArrayList<>(), new ArrayList<>(), new ArrayList<>());
        List<Integer> goal = new ArrayList<>();
        for (int x = 0; x < size; x++) {
            for (int y = 0; y < size; y++) {
                int[][] ways = what == 0
                    ? new int[][] {{x, y, y, x}, {x, x, y, y}}
                    : new int[][] {{x, x, y, x}, {x, y, x, x}, {y, x, x, x}};
                for (int[] way : ways) {
                    for (int i = 0; i < 3; i++) {
                        letters.get(i).add(way[i]);
                    }
                    goal.add(way[3]);
                }
            }
        }
        Set<List<Integer>> rows = new HashSet<>(letters);
        while (!rows.contains(goal)) {
            Set<List<Integer>> more = next(rows);
            if (more.size() > 200) {
                return FULL;
            }
            if (more.size() == rows.size()) {
                return 0;
            }
            rows = more;
        }
        return 1;
    }

    int sees(int n) {
        if (n < 0 || n > 16) {
            return BAD;
        }
        if (seen.size() == 6) {
            return FULL;
        }
        seen.add(n);
        return seen.size();
    }

    int forget() {
        int n = seen.size();
        seen.clear();
        return n;
    }

    int unseen() {
        int bits = 0;
        for (int place = 0; place < size * size; place++) {
            int x = place / size;
            int y = place % size;
            int is = f[x][y];
            for (int c = 0; c < size; c++) {
                f[x][y] = c;
                int n = closedSets().size();
                if (c != is && seen.stream().allMatch(s -> s == n)) {
                    bits |= 1 << place;
                }
            }
            f[x][y] = is;
        }
        return bits;
    }

    int keep(int image) {
        if (image != 0 && image != 1) {
            return BAD;
        }
        keptF[image] = copy(f);
        keptG[image] = g.clone();
        return size;
    }

    int back(int image) {
        if (image != 0 && image != 1) {
            return BAD;
        }
        if (keptF[image] == null) {
            return STATE;
        }
        f = copy(keptF[image]);
        g = keptG[image].clone();
        done.clear();
        return size;
    }

    private int maps(boolean onto) {
        int n = 0;
        int ways = (int) Math.pow(size, size);
        for (int way = 0; way < ways; way++) {
            int[] h = new int[size];
            Set<Integer> met = new HashSet<>();
            for (int x = 0, rest = way; x < size; x++, rest /= size) {
                h[x] = rest % size;
                met.add(h[x]);
            }
            boolean goes = !onto || met.size() == size;
            for (int x = 0; x < size; x++) {
                goes &= h[g[x]] == g[h[x]];
                for (int y = 0; y < size; y++) {
                    goes &= h[f[x][y]] == f[h[x]][h[y]];
                }
            }
            n += goes ? 1 : 0;
        }
        return n;
    }

    int count(int what) {
        switch (what) {
            case 0:
                return size;
            case 1:
                return closedSets().size();
            case 2:
                return congruences().size();
            case 3:
                int bits = 0;
                for (int law = 0; law < 7; law++) {
                    bits |= law(law) == NONE ? 1 << law : 0;
                }
                return bits;
            case 4:
                return maps(false);
            case 5:
                return maps(true);
            case 6:
                return seen.size();
            case 7:
                return text.length();
            case 8:
                return done.size();
            default:
                return BAD;
        }
    }
}
