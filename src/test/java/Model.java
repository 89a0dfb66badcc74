import java.util.ArrayDeque;
import java.util.ArrayList;
import java.util.HashSet;
import java.util.List;
import java.util.Set;

/**
 * The document's definitions taken word for word, slow and without any short cut, so that the
 * program can be held against them. An atom is the number 100 * i + j.
 */
final class Model {
    private final List<Set<Integer>> layers = new ArrayList<>();
    private final List<int[]> path = new ArrayList<>();

    Model() {
        for (int n = 0; n < 6; n++) {
            layers.add(new HashSet<>());
        }
    }

    // The square and its atoms.

    private static boolean coordinate(int x) {
        return 0 <= x && x <= 12;
    }

    private static boolean atom(int i, int j) {
        return 0 <= i && i <= 24 && 0 <= j && j <= 24;
    }

    private static int i(int p) {
        return p / 100;
    }

    private static int j(int p) {
        return p % 100;
    }

    private static int dimension(int p) {
        return i(p) % 2 + j(p) % 2;
    }

    private static List<Integer> around(int p, int reach) {
        List<Integer> found = new ArrayList<>();
        for (int i = i(p) - reach; i <= i(p) + reach; i++) {
            for (int j = j(p) - reach; j <= j(p) + reach; j++) {
                if (atom(i, j)) {
                    found.add(100 * i + j);
                }
            }
        }
        return found;
    }

    private static List<Integer> allAtoms() {
        return around(1212, 12);
    }

    private static boolean isFace(int p, int q) {
        int di = Math.abs(i(p) - i(q));
        int dj = Math.abs(j(p) - j(q));
        return p != q && di <= 1 && dj <= 1
            && (di == 0 || i(q) % 2 == 1) && (dj == 0 || j(q) % 2 == 1);
    }

    private static Set<Integer> closure(Set<Integer> set) {
        Set<Integer> closed = new HashSet<>(set);
        for (int q : set) {
            for (int p : around(q, 1)) {
                if (isFace(p, q)) {
                    closed.add(p);
                }
            }
        }
        return closed;
    }

    /** The members of a set that have p as a face and are of a dimension. */
    private static List<Integer> over(Set<Integer> set, int p, int dimension) {
        List<Integer> found = new ArrayList<>();
        for (int q : around(p, 1)) {
            if (set.contains(q) && dimension(q) == dimension && isFace(p, q)) {
                found.add(q);
            }
        }
        return found;
    }

    private boolean layer(int n) {
        return 0 <= n && n < layers.size();
    }

    // The calls.

    boolean begin(int x, int y) {
        if (!coordinate(x) || !coordinate(y)) {
            return false;
        }
        path.clear();
        path.add(new int[] {x, y});
        return true;
    }

    boolean go(int x, int y) {
        if (!coordinate(x) || !coordinate(y) || path.isEmpty() || path.size() == 24) {
            return false;
        }
        if (differing(path.get(path.size() - 1), new int[] {x, y}) != 1) {
            return false;
        }
        path.add(new int[] {x, y});
        return true;
    }

    private static int differing(int[] a, int[] b) {
        return (a[0] != b[0] ? 1 : 0) + (a[1] != b[1] ? 1 : 0);
    }

    /** The atoms of a step, in the order in which it passes them. */
    private static List<Integer> step(int[] a, int[] b) {
        List<Integer> passed = new ArrayList<>();
        int i = 2 * a[0];
        int j = 2 * a[1];
        passed.add(100 * i + j);
        while (i != 2 * b[0] || j != 2 * b[1]) {
            i += Integer.signum(2 * b[0] - i);
            j += Integer.signum(2 * b[1] - j);
            passed.add(100 * i + j);
        }
        return passed;
    }

    boolean draw(int n) {
        if (!layer(n) || path.isEmpty()) {
            return false;
        }
        for (int[] corner : path) {
            layers.get(n).add(200 * corner[0] + 2 * corner[1]);
        }
        for (int k = 0; k + 1 < path.size(); k++) {
            layers.get(n).addAll(step(path.get(k), path.get(k + 1)));
        }
        return true;
    }

    private static Set<Integer> filling(List<int[]> ring) {
        int[][] passes = new int[25][25];
        for (int k = 0; k + 1 < ring.size(); k++) {
            for (int p : step(ring.get(k), ring.get(k + 1))) {
                if (dimension(p) == 1) {
                    passes[i(p)][j(p)]++;
                }
            }
        }
        Set<Integer> inside = new HashSet<>();
        for (int p : allAtoms()) {
            int times = 0;
            for (int i = 0; i < i(p); i += 2) {
                times += passes[i][j(p)];
            }
            if (dimension(p) == 2 && times % 2 == 1) {
                inside.add(p);
            }
        }
        return closure(inside);
    }

    boolean fill(int n, int op) {
        if (!layer(n) || op < 0 || op > 3 || path.isEmpty()) {
            return false;
        }
        List<int[]> ring = new ArrayList<>(path);
        int differing = differing(path.get(path.size() - 1), path.get(0));
        if (differing == 2) {
            return false;
        }
        if (differing == 1) {
            ring.add(path.get(0));
        }
        layers.set(n, combined(op, layers.get(n), filling(ring)));
        return true;
    }

    private static Set<Integer> combined(int op, Set<Integer> a, Set<Integer> b) {
        Set<Integer> result = new HashSet<>();
        for (int p : allAtoms()) {
            boolean inA = a.contains(p);
            boolean inB = b.contains(p);
            boolean[] member = {inA || inB, inA && inB, inA && !inB, inA ^ inB};
            if (member[op]) {
                result.add(p);
            }
        }
        return op < 2 ? result : closure(result);
    }

    boolean point(int n, int x, int y) {
        if (!layer(n) || !coordinate(x) || !coordinate(y)) {
            return false;
        }
        layers.get(n).add(200 * x + 2 * y);
        return true;
    }

    boolean combine(int op, int a, int b, int into) {
        if (op < 0 || op > 3 || !layer(a) || !layer(b) || !layer(into)) {
            return false;
        }
        layers.set(into, combined(op, layers.get(a), layers.get(b)));
        return true;
    }

    boolean grow(int n, int r) {
        if (!layer(n) || r < 0 || r > 12) {
            return false;
        }
        Set<Integer> grown = new HashSet<>();
        for (int p : layers.get(n)) {
            grown.addAll(around(p, 2 * r));
        }
        layers.set(n, grown);
        return true;
    }

    boolean shrink(int n, int r) {
        if (!layer(n) || r < 0 || r > 6) {
            return false;
        }
        Set<Integer> left = new HashSet<>();
        for (int p : layers.get(n)) {
            boolean far = 2 * r <= i(p) && i(p) <= 24 - 2 * r && 2 * r <= j(p) && j(p) <= 24 - 2 * r;
            if (far && layers.get(n).containsAll(around(p, 2 * r))) {
                left.add(p);
            }
        }
        layers.set(n, left);
        return true;
    }

    boolean turn(int n, int how) {
        if (!layer(n) || how < 0 || how > 2) {
            return false;
        }
        Set<Integer> moved = new HashSet<>();
        for (int p : layers.get(n)) {
            int[] to = {100 * (24 - i(p)) + j(p), 100 * i(p) + 24 - j(p), 100 * j(p) + i(p)};
            moved.add(to[how]);
        }
        layers.set(n, moved);
        return true;
    }

    private static int partIn(Set<Integer> set, int p) {
        if (!set.contains(p)) {
            return 2;
        }
        int cells = over(set, p, 2).size();
        switch (dimension(p)) {
            case 2: return 0;
            case 1: return cells == 1 ? 1 : 0;
            default: break;
        }
        if (cells > 0) {
            return cells == 4 ? 0 : 1;
        }
        return over(set, p, 1).size() % 2;
    }

    int part(int n, int i, int j) {
        return layer(n) && atom(i, j) ? partIn(layers.get(n), 100 * i + j) : 2;
    }

    int relate(int a, int b) {
        if (!layer(a) || !layer(b)) {
            return -1;
        }
        int answer = 3 * 65536;
        int weight = 1;
        for (int digit = 0; digit < 8; digit++) {
            int greatest = 0;
            for (int p : allAtoms()) {
                if (partIn(layers.get(a), p) == digit / 3 && partIn(layers.get(b), p) == digit % 3) {
                    greatest = Math.max(greatest, dimension(p) + 1);
                }
            }
            answer += greatest * weight;
            weight *= 4;
        }
        return answer;
    }

    private static List<Set<Integer>> pieces(Set<Integer> set) {
        List<Set<Integer>> pieces = new ArrayList<>();
        Set<Integer> left = new HashSet<>(set);
        while (!left.isEmpty()) {
            Set<Integer> piece = new HashSet<>();
            ArrayDeque<Integer> open = new ArrayDeque<>();
            int first = left.iterator().next();
            left.remove(first);
            open.add(first);
            while (!open.isEmpty()) {
                int p = open.remove();
                piece.add(p);
                for (int q : around(p, 1)) {
                    if ((isFace(p, q) || isFace(q, p)) && left.remove(q)) {
                        open.add(q);
                    }
                }
            }
            pieces.add(piece);
        }
        return pieces;
    }

    private static int holes(Set<Integer> set) {
        Set<Integer> exterior = new HashSet<>(allAtoms());
        exterior.removeAll(set);
        int holes = 0;
        for (Set<Integer> piece : pieces(exterior)) {
            boolean rim = false;
            for (int p : piece) {
                rim |= i(p) == 0 || i(p) == 24 || j(p) == 0 || j(p) == 24;
            }
            holes += rim ? 0 : 1;
        }
        return holes;
    }

    /** A boundary edge as {start, end, cell}: the cell is to the left of the way from start to end. */
    private static int[] directed(Set<Integer> set, int edge) {
        int cell = over(set, edge, 2).get(0);
        int toLeftI = i(cell) - i(edge);
        int toLeftJ = j(cell) - j(edge);
        // Turning what lies to the left by a quarter to the right gives the way ahead.
        int aheadI = toLeftJ;
        int aheadJ = -toLeftI;
        int start = 100 * (i(edge) - aheadI) + j(edge) - aheadJ;
        int end = 100 * (i(edge) + aheadI) + j(edge) + aheadJ;
        return new int[] {start, end, cell};
    }

    private static int[] following(List<int[]> edges, int[] edge) {
        List<int[]> begin = new ArrayList<>();
        for (int[] next : edges) {
            if (next[0] == edge[1]) {
                begin.add(next);
            }
        }
        if (begin.size() == 1) {
            return begin.get(0);
        }
        for (int[] next : begin) {
            if (next[2] == edge[2]) {
                return next;
            }
        }
        throw new IllegalStateException("no edge follows");
    }

    /** Number of rings, edges of the longest, corners of all. */
    private static int[] rings(Set<Integer> set) {
        List<int[]> edges = new ArrayList<>();
        for (int p : allAtoms()) {
            if (dimension(p) == 1 && partIn(set, p) == 1) {
                edges.add(directed(set, p));
            }
        }
        Set<int[]> done = new HashSet<>();
        int[] found = new int[3];
        for (int[] first : edges) {
            int length = 0;
            for (int[] edge = first; done.add(edge); edge = following(edges, edge)) {
                int[] next = following(edges, edge);
                length++;
                found[2] += edge[1] - edge[0] != next[1] - next[0] ? 1 : 0;
            }
            found[0] += length > 0 ? 1 : 0;
            found[1] = Math.max(found[1], length);
        }
        return found;
    }

    int measure(int n, int what) {
        if (!layer(n) || what < 0 || what > 8) {
            return -1;
        }
        Set<Integer> set = layers.get(n);
        int[] counts = new int[4];
        for (int p : set) {
            counts[0] += dimension(p) == 2 ? 1 : 0;
            counts[1] += dimension(p) == 1 && over(set, p, 2).isEmpty() ? 1 : 0;
            counts[2] += dimension(p) == 1 && partIn(set, p) == 1 ? 1 : 0;
            counts[3] += dimension(p) == 0 && partIn(set, p) == 1 ? 1 : 0;
        }
        if (what < 4) {
            return counts[what];
        }
        return what == 4 ? pieces(set).size() : what == 5 ? holes(set) : rings(set)[what - 6];
    }

    int nearest(int n, int x, int y) {
        if (!layer(n) || layers.get(n).isEmpty() || !coordinate(x) || !coordinate(y)) {
            return -1;
        }
        int least = Integer.MAX_VALUE;
        for (int p : layers.get(n)) {
            if (dimension(p) == 0) {
                least = Math.min(least, Math.abs(x - i(p) / 2) + Math.abs(y - j(p) / 2));
            }
        }
        return least;
    }

    int route(int n, int from, int to) {
        if (!layer(n) || from < 0 || from > 168 || to < 0 || to > 168) {
            return -1;
        }
        Set<Integer> set = layers.get(n);
        int start = 200 * (from % 13) + 2 * (from / 13);
        int goal = 200 * (to % 13) + 2 * (to / 13);
        if (!set.contains(start) || !set.contains(goal)) {
            return -1;
        }
        Set<Integer> seen = new HashSet<>(Set.of(start));
        Set<Integer> front = Set.of(start);
        for (int edges = 0; !front.isEmpty(); edges++) {
            if (front.contains(goal)) {
                return edges;
            }
            Set<Integer> next = new HashSet<>();
            for (int p : front) {
                for (int edge : over(set, p, 1)) {
                    for (int q : around(edge, 1)) {
                        if (isFace(q, edge) && seen.add(q)) {
                            next.add(q);
                        }
                    }
                }
            }
            front = next;
        }
        return -1;
    }

    int piece(int n, int x, int y) {
        if (!layer(n) || !coordinate(x) || !coordinate(y)) {
            return -1;
        }
        for (Set<Integer> piece : pieces(layers.get(n))) {
            if (piece.contains(200 * x + 2 * y)) {
                int cells = 0;
                for (int p : piece) {
                    cells += dimension(p) == 2 ? 1 : 0;
                }
                return cells;
            }
        }
        return -1;
    }

    boolean covers(int a, int b) {
        return layer(a) && layer(b) && layers.get(a).containsAll(layers.get(b));
    }
}
