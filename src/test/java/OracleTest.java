import java.util.ArrayList;
import java.util.List;

/**
 * Long runs of calls against answers that are worked out straight from the document's words:
 * every matching of the graph is listed, and each question is asked of that list.
 */
public final class OracleTest {
    private static final int N = 10;
    private static long seed = 20261115L;

    private final MatchingStructure x = new MatchingStructure();
    private final boolean[][] edge = new boolean[N][N];
    private final boolean[] on = new boolean[N];
    private final StringBuilder calls = new StringBuilder();
    private List<int[]> greatest;

    private OracleTest() {
        java.util.Arrays.fill(on, true);
    }

    /** A fixed row of numbers, so that every run of the test is the same. */
    private static int next(int bound) {
        seed = seed * 6364136223846793005L + 1442695040888963407L;
        return (int) ((seed >>> 33) % bound);
    }

    /** Mostly vertices, and now and then a number that is none. */
    private static int nextVertex() {
        if (next(40) != 0) {
            return next(N);
        }
        int[] none = {-1, 10, 11, 31, 32, 33, 42, -2, -32, Integer.MIN_VALUE, Integer.MAX_VALUE};
        return none[next(none.length)];
    }

    private void due(String call, Object got, Object want) {
        // The calls so far are put into words only where they are needed: they are long.
        if (!got.equals(want)) {
            Check.due(calls + ": " + call, got, want);
        }
    }

    private static boolean good(int v) {
        return 0 <= v && v <= 9;
    }

    private static boolean good(int a, int b) {
        return good(a) && good(b) && a != b;
    }

    // ---- every matching, as the partner of each vertex (N for none)

    private List<int[]> greatestMatchings() {
        List<int[]> all = new ArrayList<>();
        int[] partner = new int[N];
        java.util.Arrays.fill(partner, N);
        list(N - 1, partner, all);
        int most = 0;
        for (int[] m : all) {
            most = Math.max(most, edges(m));
        }
        List<int[]> best = new ArrayList<>();
        for (int[] m : all) {
            if (edges(m) == most) {
                best.add(m);
            }
        }
        return best;
    }

    private void list(int v, int[] partner, List<int[]> all) {
        if (v < 0) {
            all.add(partner.clone());
            return;
        }
        list(v - 1, partner, all);
        for (int u = 0; u < v && partner[v] == N; u++) {
            if (partner[u] == N && on[u] && on[v] && edge[u][v]) {
                partner[u] = v;
                partner[v] = u;
                list(v - 1, partner, all);
                partner[u] = N;
                partner[v] = N;
            }
        }
    }

    private static int edges(int[] m) {
        int ends = 0;
        for (int p : m) {
            ends += p == N ? 0 : 1;
        }
        return ends / 2;
    }

    private int greatestSize() {
        return edges(greatestMatchings().get(0));
    }

    // ---- the questions, in the document's words

    private int dueMissed() {
        int missed = 0;
        for (int v = 0; v < N; v++) {
            missed += on[v] && greatest.get(0)[v] == N ? 1 : 0;
        }
        return missed;
    }

    private boolean free(int v) {
        return on[v] && greatest.stream().anyMatch(m -> m[v] == N);
    }

    private int duePart(int v) {
        if (!good(v)) {
            return -1;
        }
        if (!on[v]) {
            return 0;
        }
        if (free(v)) {
            return 1;
        }
        for (int u = 0; u < N; u++) {
            if (edge[u][v] && free(u)) {
                return 2;
            }
        }
        return 3;
    }

    private int dueMembers(int part, int[] parts) {
        int mask = 0;
        for (int v = 0; v < N; v++) {
            mask |= part >= 1 && part <= 3 && parts[v] == part ? 1 << v : 0;
        }
        return mask;
    }

    /** Each free vertex takes the smallest number it hangs together with; groups are the numbers left. */
    private int dueGroups(int[] parts) {
        int[] name = {0, 1, 2, 3, 4, 5, 6, 7, 8, 9};
        for (int round = 0; round < N; round++) {
            for (int a = 0; a < N; a++) {
                for (int b = 0; b < N; b++) {
                    if (edge[a][b] && parts[a] == 1 && parts[b] == 1) {
                        name[a] = Math.min(name[a], name[b]);
                    }
                }
            }
        }
        int groups = 0;
        for (int v = 0; v < N; v++) {
            groups += parts[v] == 1 && name[v] == v ? 1 : 0;
        }
        return groups;
    }

    private int duePartner(int v) {
        if (!good(v)) {
            return -1;
        }
        int[] first = greatest.get(0);
        for (int[] m : greatest) {
            first = java.util.Arrays.compare(m, first) < 0 ? m : first;
        }
        return first[v] == N ? -2 : first[v];
    }

    private boolean dueInSome(int a, int b) {
        return good(a, b) && greatest.stream().anyMatch(m -> m[a] == b);
    }

    private boolean dueInAll(int a, int b) {
        return good(a, b) && greatest.stream().allMatch(m -> m[a] == b);
    }

    private boolean dueHelps(int a, int b) {
        if (!good(a, b) || !on[a] || !on[b] || edge[a][b]) {
            return false;
        }
        set(a, b, true);
        int with = greatestSize();
        set(a, b, false);
        return with > edges(greatest.get(0));
    }

    private int dueNeeded() {
        int needed = 0;
        for (int v = 0; v < N; v++) {
            if (on[v]) {
                on[v] = false;
                needed += greatestSize() < edges(greatest.get(0)) ? 1 : 0;
                on[v] = true;
            }
        }
        return needed;
    }

    // ---- the changes

    private void set(int a, int b, boolean there) {
        edge[a][b] = there;
        edge[b][a] = there;
    }

    private void callEdge(int a, int b, boolean there) {
        int want = !good(a, b) ? -1 : edge[a][b] ? 1 : 0;
        if (want != -1) {
            set(a, b, there);
        }
        String call = "edge(" + a + ", " + b + ", " + there + ")";
        due(call, x.edge(a, b, there), want);
        calls.append(call).append(' ');
    }

    private void callTurn(int v, boolean to) {
        int want = !good(v) ? -1 : on[v] ? 1 : 0;
        if (want != -1) {
            on[v] = to;
        }
        String call = "turn(" + v + ", " + to + ")";
        due(call, x.turn(v, to), want);
        calls.append(call).append(' ');
    }

    private void callCircle(int a, int b) {
        int want = -1;
        if (0 <= a && a < b && b <= 9 && b - a >= 2) {
            want = 0;
            for (int v = a; v <= b; v++) {
                int to = v == b ? a : v + 1;
                want += edge[v][to] ? 0 : 1;
                set(v, to, true);
            }
        }
        String call = "circle(" + a + ", " + b + ")";
        due(call, x.circle(a, b), want);
        calls.append(call).append(' ');
    }

    private void callClear() {
        for (int v = 0; v < N; v++) {
            on[v] = true;
            java.util.Arrays.fill(edge[v], false);
        }
        x.clear();
        calls.append("clear() ");
    }

    private void change(int density) {
        int kind = next(100);
        if (kind < 60) {
            callEdge(nextVertex(), nextVertex(), next(100) < density);
        } else if (kind < 90) {
            callTurn(nextVertex(), next(100) < 65);
        } else if (kind < 98) {
            callCircle(nextVertex(), nextVertex());
        } else if (next(5) == 0) {
            callClear();
        }
    }

    private void askVertex(int v) {
        due("part(" + v + ")", x.part(v), duePart(v));
        due("partner(" + v + ")", x.partner(v), duePartner(v));
    }

    private void askPair(int a, int b) {
        String pair = "(" + a + ", " + b + ")";
        due("inSome" + pair, x.inSome(a, b), dueInSome(a, b));
        due("inAll" + pair, x.inAll(a, b), dueInAll(a, b));
        due("helps" + pair, x.helps(a, b), dueHelps(a, b));
    }

    private void askWhole() {
        int[] parts = new int[N];
        for (int v = 0; v < N; v++) {
            parts[v] = duePart(v);
        }
        due("size()", x.size(), edges(greatest.get(0)));
        due("missed()", x.missed(), dueMissed());
        due("groups()", x.groups(), dueGroups(parts));
        due("needed()", x.needed(), dueNeeded());
        for (int part = -1; part <= 4; part++) {
            due("members(" + part + ")", x.members(part), dueMembers(part, parts));
        }
    }

    /** Asks everything about one state, with a number beside the vertices on either side: 466 calls. */
    private void askAll() {
        greatest = greatestMatchings();
        askWhole();
        for (int a = -1; a <= N; a++) {
            askVertex(a);
            for (int b = -1; b <= N; b++) {
                askPair(a, b);
            }
        }
    }

    /** Changes, then one state asked through; an object is good for 512 calls. */
    private static void runThenAsk(int changes, int density) {
        OracleTest t = new OracleTest();
        for (int i = 0; i < changes; i++) {
            t.change(density);
        }
        t.askAll();
    }

    /** Questions between the changes, so that one that changes something is found out. */
    private static void runAsking(int density) {
        OracleTest t = new OracleTest();
        for (int i = 0; i < 31; i++) {
            t.change(density);
            t.greatest = t.greatestMatchings();
            t.askWhole();
            t.askVertex(nextVertex());
            t.askPair(nextVertex(), nextVertex());
        }
    }

    /** Every graph over four of the vertices, with each choice of them off. */
    private static void smallGraphs(int[] at) {
        for (int state = 0; state < 1 << 10; state++) {
            OracleTest t = new OracleTest();
            int bit = 0;
            for (int a = 0; a < 4; a++) {
                for (int b = 0; b < a; b++) {
                    t.callEdge(at[a], at[b], (state >> bit & 1) == 1);
                    bit++;
                }
                t.callTurn(at[a], (state >> 6 + a & 1) == 1);
            }
            for (int v = 0; v < N; v++) {
                final int w = v;
                if (java.util.Arrays.stream(at).noneMatch(u -> u == w) && v % 2 == 0) {
                    t.callTurn(v, false);
                }
            }
            t.askAll();
        }
    }

    public static void main(String[] args) {
        smallGraphs(new int[] {0, 1, 2, 3});
        smallGraphs(new int[] {9, 0, 4, 7});
        for (int i = 0; i < 1500; i++) {
            runThenAsk(next(46), 20 + next(80));
        }
        for (int i = 0; i < 300; i++) {
            runAsking(20 + next(80));
        }
        Check.end();
    }
}
