import java.util.ArrayList;
import java.util.Arrays;
import java.util.Collections;
import java.util.HashSet;
import java.util.List;
import java.util.Set;
import java.util.TreeSet;

/**
 * The document once more, written independently of PlainDrawing and without care for speed:
 * lists instead of rows, planarity by forbidden minors, best ways by trying all of them.
 */
final class ReferenceDrawing {
    private static final int INVALID = -1;
    private static final int ILLEGAL = -2;
    private static final int FULL = -3;
    private static final int NOTHING = -9;

    private static final class State {
        int n = 4;
        int outer = 0;
        List<int[]> edges = new ArrayList<>();
        List<List<Integer>> rot = new ArrayList<>();

        static State blank(int n) {
            State s = new State();
            s.n = n;
            for (int i = 0; i < n; i++) s.rot.add(new ArrayList<>());
            return s;
        }

        State copy() {
            State s = new State();
            s.n = n;
            s.outer = outer;
            for (int[] e : edges) s.edges.add(e.clone());
            for (List<Integer> r : rot) s.rot.add(new ArrayList<>(r));
            return s;
        }

        int between(int a, int b) {
            for (int i = 0; i < edges.size(); i++) {
                int[] e = edges.get(i);
                if (e[0] == a && e[1] == b || e[0] == b && e[1] == a) return i;
            }
            return -1;
        }
    }

    private State s = State.blank(4);
    private final List<State> saved = new ArrayList<>();
    private String text = "";

    private void remember() {
        saved.add(s.copy());
        if (saved.size() > 6) saved.remove(0);
    }

    private boolean node(int v) { return v >= 0 && v < s.n; }
    private boolean pair(int a, int b) { return node(a) && node(b) && a != b; }
    private boolean isEdge(int e) { return e >= 0 && e < s.edges.size(); }
    private boolean isFace(int f) { return f >= 0 && f < faces().size(); }
    private boolean has(int e, int v) {
        return isEdge(e) && (s.edges.get(e)[0] == v || s.edges.get(e)[1] == v);
    }

    // -- faces

    private int from(int d) { return s.edges.get(d / 2)[d % 2]; }
    private int to(int d) { return s.edges.get(d / 2)[1 - d % 2]; }

    private int next(int d) {
        int v = to(d);
        List<Integer> r = s.rot.get(v);
        int e = r.get((r.indexOf(d / 2) + 1) % r.size());
        return s.edges.get(e)[0] == v ? 2 * e : 2 * e + 1;
    }

    private List<List<Integer>> faces() {
        List<List<Integer>> all = new ArrayList<>();
        Set<Integer> used = new HashSet<>();
        for (int d = 0; d < 2 * s.edges.size(); d++) {
            if (used.contains(d)) continue;
            List<Integer> f = new ArrayList<>();
            int x = d;
            do {
                f.add(x);
                used.add(x);
                x = next(x);
            } while (x != d);
            all.add(f);
        }
        return all;
    }

    private int ownerOf(int d) {
        List<List<Integer>> all = faces();
        for (int i = 0; i < all.size(); i++) if (all.get(i).contains(d)) return i;
        throw new IllegalStateException();
    }

    private Set<Integer> on(int f) {
        Set<Integer> set = new TreeSet<>();
        for (int d : faces().get(f)) set.add(from(d));
        return set;
    }

    private int[] componentOf() {
        int[] c = new int[s.n];
        for (int i = 0; i < s.n; i++) c[i] = i;
        for (int[] e : s.edges) {
            int x = c[e[0]];
            int y = c[e[1]];
            for (int i = 0; i < s.n; i++) if (c[i] == x) c[i] = y;
        }
        return c;
    }

    /** Component by component, as the document tells it. */
    private int genus() {
        int[] c = componentOf();
        List<List<Integer>> all = faces();
        int sum = 0;
        for (int part = 0; part < s.n; part++) {
            int n = 0;
            int m = 0;
            int f = 0;
            for (int i = 0; i < s.n; i++) if (c[i] == part) n++;
            for (int[] e : s.edges) if (c[e[0]] == part) m++;
            for (List<Integer> w : all) if (c[from(w.get(0))] == part) f++;
            if (m > 0) sum += (2 - n + m - f) / 2;
        }
        return sum;
    }

    // -- the calls

    int setNodes(int nodes) {
        if (nodes < 2 || nodes > 9) return INVALID;
        remember();
        int old = s.n;
        s = State.blank(nodes);
        return old;
    }

    int addEdge(int a, int b, int x, int y) {
        if (!pair(a, b) || x != -1 && !has(x, a) || y != -1 && !has(y, b)) return INVALID;
        if (s.between(a, b) >= 0) return ILLEGAL;
        if (s.edges.size() == 20) return FULL;
        remember();
        int e = s.edges.size();
        s.edges.add(new int[] {Math.min(a, b), Math.max(a, b)});
        s.rot.get(a).add(x == -1 ? 0 : s.rot.get(a).indexOf(x) + 1, e);
        s.rot.get(b).add(y == -1 ? 0 : s.rot.get(b).indexOf(y) + 1, e);
        s.outer = 0;
        return e;
    }

    int addInFace(int a, int b, int f) {
        if (!pair(a, b) || !isFace(f)) return INVALID;
        if (s.between(a, b) >= 0 || !on(f).contains(a) || !on(f).contains(b)) return ILLEGAL;
        if (s.edges.size() == 20) return FULL;
        int first = -1;
        int second = -1;
        for (int d : faces().get(f)) {
            if (from(d) == a && first < 0) first = d / 2;
            if (from(d) == b && second < 0) second = d / 2;
        }
        remember();
        int e = s.edges.size();
        s.edges.add(new int[] {Math.min(a, b), Math.max(a, b)});
        s.rot.get(a).add(s.rot.get(a).indexOf(first), e);
        s.rot.get(b).add(s.rot.get(b).indexOf(second), e);
        s.outer = 0;
        return e;
    }

    int removeEdge(int e) {
        if (!isEdge(e)) return INVALID;
        remember();
        s.edges.remove(e);
        for (List<Integer> r : s.rot) {
            r.remove((Integer) e);
            r.replaceAll(x -> x > e ? x - 1 : x);
        }
        s.outer = 0;
        return s.edges.size();
    }

    int swap(int v, int e, int f) {
        if (!node(v) || !has(e, v) || !has(f, v)) return INVALID;
        remember();
        Collections.swap(s.rot.get(v), s.rot.get(v).indexOf(e), s.rot.get(v).indexOf(f));
        s.outer = 0;
        return genus() == 0 ? 1 : 0;
    }

    int mirror() {
        remember();
        for (List<Integer> r : s.rot) Collections.reverse(r);
        s.outer = 0;
        return faces().size();
    }

    int rotation(int v, int k) {
        if (!node(v) || k < 0) return INVALID;
        return k < s.rot.get(v).size() ? s.rot.get(v).get(k) : NOTHING;
    }

    int edge(int e, int end) {
        if (!isEdge(e) || end != 0 && end != 1) return INVALID;
        return s.edges.get(e)[end];
    }

    int count(int what) {
        switch (what) {
            case 0: return s.n;
            case 1: return s.edges.size();
            case 2: {
                Set<Integer> parts = new HashSet<>();
                for (int c : componentOf()) parts.add(c);
                return parts.size();
            }
            case 3: return faces().size();
            case 4: return genus();
            case 5: return s.outer;
            case 6: return text.length();
            case 7: return saved.size();
            default: return INVALID;
        }
    }

    int appendCharacter(int c) {
        if (c < 0 || c > 255) return INVALID;
        if (text.length() == 100) return FULL;
        text += (char) c;
        return text.length();
    }

    int clearText() {
        int old = text.length();
        text = "";
        return old;
    }

    int load() {
        State g = null;
        StringBuilder word = new StringBuilder();
        for (int i = 0; i < text.length(); i++) {
            char c = text.charAt(i);
            if (c == ' ') continue;
            int digit = c >= '0' && c <= '9' ? c - '0' : -1;
            boolean good;
            if (g == null && word.length() == 0) {
                good = digit >= 2;
            } else if (g == null) {
                good = c == ':';
                if (good) {
                    g = State.blank(word.charAt(0) - '0');
                    word.setLength(0);
                    continue;
                }
            } else if (word.length() == 0) {
                good = digit >= 0 && digit < g.n && g.edges.size() < 20;
            } else if (word.length() == 1) {
                int a = word.charAt(0) - '0';
                good = digit >= 0 && digit < g.n && digit != a && g.between(a, digit) < 0;
            } else {
                good = c == ';';
                if (good) {
                    int a = word.charAt(0) - '0';
                    int b = word.charAt(1) - '0';
                    g.rot.get(a).add(g.edges.size());
                    g.rot.get(b).add(g.edges.size());
                    g.edges.add(new int[] {Math.min(a, b), Math.max(a, b)});
                    word.setLength(0);
                    continue;
                }
            }
            if (!good) return -10 - i;
            word.append(c);
        }
        if (g == null || word.length() > 0) return -10 - text.length();
        remember();
        s = g;
        text = "";
        return g.edges.size();
    }

    int face(int f, int what) {
        if (!isFace(f) || what < 0 || what > 3) return INVALID;
        List<Integer> w = faces().get(f);
        if (what == 0) return w.size();
        if (what == 1) return on(f).size();
        if (what == 2) return Collections.min(w);
        Set<Integer> others = new HashSet<>();
        for (int d : w) others.add(ownerOf(d ^ 1));
        others.remove(f);
        return others.size();
    }

    int walk(int f, int k) {
        if (!isFace(f) || k < 0) return INVALID;
        return k < faces().get(f).size() ? faces().get(f).get(k) : NOTHING;
    }

    int faceOf(int d) {
        return d < 0 || d >= 2 * s.edges.size() ? INVALID : ownerOf(d);
    }

    int commonFace(int a, int b) {
        if (!pair(a, b)) return INVALID;
        for (int f = 0; f < faces().size(); f++) if (on(f).contains(a) && on(f).contains(b)) return f;
        return NOTHING;
    }

    // -- graphs

    private static int[] masks(int n, List<int[]> edges) {
        int[] adj = new int[n];
        for (int[] e : edges) {
            adj[e[0]] |= 1 << e[1];
            adj[e[1]] |= 1 << e[0];
        }
        return adj;
    }

    private static boolean planar(int n, List<int[]> edges) {
        return !hasForbiddenMinor(masks(n, edges), new HashSet<>());
    }

    /** By Wagner: not planar just if some contraction has K5 or K3,3 as a subgraph. */
    private static boolean hasForbiddenMinor(int[] adj, Set<String> seen) {
        int m = 0;
        for (int x : adj) m += Integer.bitCount(x);
        if (m / 2 < 9 || !seen.add(Arrays.toString(adj))) return false;
        if (hasK5(adj, 0, 0, 0) || hasK33(adj)) return true;
        for (int a = 0; a < adj.length; a++) {
            for (int b = a + 1; b < adj.length; b++) {
                if ((adj[a] >> b & 1) != 0 && hasForbiddenMinor(contract(adj, a, b), seen)) return true;
            }
        }
        return false;
    }

    private static int[] contract(int[] adj, int a, int b) {
        int[] c = adj.clone();
        c[a] = (c[a] | c[b]) & ~(1 << a) & ~(1 << b);
        c[b] = 0;
        for (int v = 0; v < c.length; v++) {
            c[v] &= ~(1 << b);
            if ((c[a] >> v & 1) != 0) c[v] |= 1 << a;
        }
        return c;
    }

    private static boolean hasK5(int[] adj, int from, int chosen, int size) {
        if (size == 5) return true;
        for (int v = from; v < adj.length; v++) {
            if ((adj[v] & chosen) == chosen && hasK5(adj, v + 1, chosen | 1 << v, size + 1)) return true;
        }
        return false;
    }

    private static boolean hasK33(int[] adj) {
        int n = adj.length;
        for (int a = 0; a < n; a++)
            for (int b = a + 1; b < n; b++)
                for (int c = b + 1; c < n; c++)
                    if (Integer.bitCount(adj[a] & adj[b] & adj[c]) >= 3) return true;
        return false;
    }

    private List<int[]> without(List<int[]> edges, int[] gone) {
        List<int[]> rest = new ArrayList<>(edges);
        rest.remove(gone);
        return rest;
    }

    int isPlanar() { return planar(s.n, s.edges) ? 1 : 0; }

    int canAdd(int a, int b) {
        if (!pair(a, b)) return INVALID;
        if (s.between(a, b) >= 0) return ILLEGAL;
        List<int[]> more = new ArrayList<>(s.edges);
        more.add(new int[] {a, b});
        return planar(s.n, more) ? 1 : 0;
    }

    private List<int[]> obstructing() {
        List<int[]> left = new ArrayList<>(s.edges);
        if (planar(s.n, left)) return new ArrayList<>();
        for (int[] e : s.edges) {
            if (!planar(s.n, without(left, e))) left = without(left, e);
        }
        return left;
    }

    int obstruction() {
        int set = 0;
        for (int[] e : obstructing()) set |= 1 << s.edges.indexOf(e);
        return set;
    }

    int branching() {
        int[] degree = new int[s.n];
        for (int[] e : obstructing()) {
            degree[e[0]]++;
            degree[e[1]]++;
        }
        int set = 0;
        for (int v = 0; v < s.n; v++) if (degree[v] >= 3) set |= 1 << v;
        return set;
    }

    int guiltyEdges() {
        if (isPlanar() == 1) return NOTHING;
        int guilty = 0;
        for (int[] e : s.edges) if (planar(s.n, without(s.edges, e))) guilty++;
        return guilty;
    }

    // -- insertions

    private List<Integer> best;

    private void tryWays(int[] owner, Set<Integer> goals, int face, List<Integer> done, int left) {
        if (left == 0) {
            if (goals.contains(face) && (best == null || less(done, best))) best = new ArrayList<>(done);
            return;
        }
        for (int d = 0; d < owner.length; d++) {
            if (owner[d] == face) {
                done.add(d / 2);
                tryWays(owner, goals, owner[d ^ 1], done, left - 1);
                done.remove(done.size() - 1);
            }
        }
    }

    private static boolean less(List<Integer> p, List<Integer> q) {
        for (int i = 0; i < p.size(); i++) {
            if (!p.get(i).equals(q.get(i))) return p.get(i) < q.get(i);
        }
        return false;
    }

    private List<Integer> bestWay(int a, int b) {
        if (componentOf()[a] != componentOf()[b]) return new ArrayList<>();
        int[] owner = new int[2 * s.edges.size()];
        for (int d = 0; d < owner.length; d++) owner[d] = ownerOf(d);
        Set<Integer> goals = new HashSet<>();
        for (int f = 0; f < faces().size(); f++) if (on(f).contains(b)) goals.add(f);
        best = null;
        for (int cost = 0; best == null; cost++) {
            for (int f = 0; f < faces().size(); f++) {
                if (on(f).contains(a)) tryWays(owner, goals, f, new ArrayList<>(), cost);
            }
        }
        return best;
    }

    int insertionCost(int a, int b) {
        if (!pair(a, b)) return INVALID;
        if (genus() != 0 || s.between(a, b) >= 0) return ILLEGAL;
        return bestWay(a, b).size();
    }

    int crossed(int a, int b, int k) {
        if (!pair(a, b) || k < 0) return INVALID;
        if (genus() != 0 || s.between(a, b) >= 0) return ILLEGAL;
        List<Integer> w = bestWay(a, b);
        return k < w.size() ? w.get(k) : NOTHING;
    }

    // -- depths and positions

    int setOuter(int f) {
        if (!isFace(f)) return INVALID;
        remember();
        int old = s.outer;
        s.outer = f;
        return old;
    }

    int depth(int v) {
        if (!node(v)) return INVALID;
        if (s.edges.isEmpty()) return NOTHING;
        int[] depth = new int[s.n];
        Arrays.fill(depth, 1000);
        for (int u : on(s.outer)) depth[u] = 0;
        for (int again = 0; again < s.n; again++)
            for (int f = 0; f < faces().size(); f++)
                for (int p : on(f))
                    for (int q : on(f)) depth[p] = Math.min(depth[p], depth[q] + 1);
        return depth[v] >= 1000 ? NOTHING : depth[v];
    }

    private float[][] positions(int rounds) {
        float[][] at = new float[s.n][2];
        List<Integer> fixed = new ArrayList<>();
        for (int d : faces().get(s.outer)) if (!fixed.contains(from(d))) fixed.add(from(d));
        for (int k = 0; k < fixed.size(); k++) at[fixed.get(k)] = new float[] {k, k * k};
        for (int r = 0; r < rounds; r++) {
            for (int v = 0; v < s.n; v++) {
                if (fixed.contains(v) || s.rot.get(v).isEmpty()) continue;
                for (int axis = 0; axis < 2; axis++) {
                    float sum = 0f;
                    for (int e : s.rot.get(v)) {
                        int[] ends = s.edges.get(e);
                        sum += at[ends[0] == v ? ends[1] : ends[0]][axis];
                    }
                    at[v][axis] = sum / (float) s.rot.get(v).size();
                }
            }
        }
        return at;
    }

    int position(int v, int axis, int rounds) {
        if (!node(v) || axis < 0 || axis > 1 || rounds < 0 || rounds > 50) return INVALID;
        if (s.edges.isEmpty()) return ILLEGAL;
        return Float.floatToIntBits(positions(rounds)[v][axis]);
    }

    private static float turn(float[] p, float[] q, float[] r) {
        return (q[0] - p[0]) * (r[1] - p[1]) - (q[1] - p[1]) * (r[0] - p[0]);
    }

    int crossings(int rounds) {
        if (rounds < 0 || rounds > 50) return INVALID;
        if (s.edges.isEmpty()) return ILLEGAL;
        float[][] at = positions(rounds);
        int pairs = 0;
        for (int i = 0; i < s.edges.size(); i++) {
            for (int j = 0; j < i; j++) {
                int[] e = s.edges.get(i);
                int[] f = s.edges.get(j);
                if (e[0] == f[0] || e[0] == f[1] || e[1] == f[0] || e[1] == f[1]) continue;
                float w = Math.signum(turn(at[e[0]], at[e[1]], at[f[0]]));
                float x = Math.signum(turn(at[e[0]], at[e[1]], at[f[1]]));
                float y = Math.signum(turn(at[f[0]], at[f[1]], at[e[0]]));
                float z = Math.signum(turn(at[f[0]], at[f[1]], at[e[1]]));
                if (w * x == -1f && y * z == -1f) pairs++;
            }
        }
        return pairs;
    }

    int extent(int rounds) {
        if (rounds < 0 || rounds > 50) return INVALID;
        if (s.edges.isEmpty()) return ILLEGAL;
        float[][] at = positions(rounds);
        float sum = 0f;
        for (int[] e : s.edges) {
            sum += Math.max(Math.abs(at[e[0]][0] - at[e[1]][0]), Math.abs(at[e[0]][1] - at[e[1]][1]));
        }
        return Float.floatToIntBits(sum);
    }

    int undo() {
        if (saved.isEmpty()) return ILLEGAL;
        s = saved.remove(saved.size() - 1);
        return saved.size();
    }
}
