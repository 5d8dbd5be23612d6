/** Matchings of a graph and the parts it falls into by them. */
public final class MatchingStructure {
    public static final int BAD_VERTEX = -1;
    public static final int NONE = -2;
    public static final int OFF = 0;
    public static final int FREE = 1;
    public static final int BORDER = 2;
    public static final int CORE = 3;

    private static final int VERTICES = 10;
    private static final int SETS = 1 << VERTICES;
    private static final int ALL = SETS - 1;

    /** For each vertex the mask of its neighbours; kept for vertices that are off too. */
    private final int[] neighbours = new int[VERTICES];

    /**
     * For each set of vertices the number of edges of a greatest matching inside it.
     * It leaves out which vertices are on, so that turning one needs no new table and
     * every question about the graph without some vertices is one look into it.
     */
    private final int[] greatest = new int[SETS];

    /** The mask of the vertices that are on. */
    private int onVertices;

    public MatchingStructure() {
        onVertices = ALL;
    }

    public int edge(int a, int b, boolean there) {
        if (!isPair(a, b)) {
            return BAD_VERTEX;
        }
        int before = has(neighbours[a], b) ? 1 : 0;
        if (there) {
            join(a, b);
        } else {
            separate(a, b);
        }
        measure();
        return before;
    }

    public int turn(int v, boolean on) {
        if (!isVertex(v)) {
            return BAD_VERTEX;
        }
        int before = has(onVertices, v) ? 1 : 0;
        onVertices = on ? onVertices | 1 << v : without(onVertices, v);
        return before;
    }

    public int circle(int a, int b) {
        // The range is looked at first: b - a may wrap around outside it.
        if (!isVertex(a) || !isVertex(b) || b - a < 2) {
            return BAD_VERTEX;
        }
        int added = join(b, a);
        for (int v = a; v < b; v++) {
            added += join(v, v + 1);
        }
        measure();
        return added;
    }

    public void clear() {
        for (int v = 0; v < VERTICES; v++) {
            neighbours[v] = 0;
        }
        onVertices = ALL;
        measure();
    }

    public int size() {
        return greatest[onVertices];
    }

    public int missed() {
        return count(onVertices) - 2 * greatest[onVertices];
    }

    public int part(int v) {
        if (!isVertex(v)) {
            return BAD_VERTEX;
        }
        int free = freeVertices();
        return partOf(v, free);
    }

    public int members(int part) {
        if (part != FREE && part != BORDER && part != CORE) {
            return 0;
        }
        int free = freeVertices();
        int found = 0;
        for (int v = 0; v < VERTICES; v++) {
            if (partOf(v, free) == part) {
                found |= 1 << v;
            }
        }
        return found;
    }

    public int groups() {
        int free = freeVertices();
        int left = free;
        int found = 0;
        for (int v = 0; v < VERTICES; v++) {
            if (has(left, v)) {
                left &= ~groupOf(v, free);
                found++;
            }
        }
        return found;
    }

    public int partner(int v) {
        if (!isVertex(v)) {
            return BAD_VERTEX;
        }
        // Giving each vertex in turn the smallest partner that still leaves a greatest
        // matching makes the first one in the order of the document.
        int left = onVertices;
        for (int w = 0; w < VERTICES; w++) {
            int p = firstPartner(left, w);
            if (w == v && p != NONE) {
                return p;
            }
            if (p == v) {
                return w;
            }
            left = without(left, w);
            if (p != NONE) {
                left = without(left, p);
            }
        }
        return NONE;
    }

    public boolean inSome(int a, int b) {
        return isPair(a, b) && canTake(onVertices, a, b);
    }

    public boolean inAll(int a, int b) {
        if (!isPair(a, b) || !canTake(onVertices, a, b) || isFree(a)) {
            return false;
        }
        // No greatest matching misses a, so one without this edge gives a another partner.
        for (int other = 0; other < VERTICES; other++) {
            if (other != b && canTake(onVertices, a, other)) {
                return false;
            }
        }
        return true;
    }

    public boolean helps(int a, int b) {
        if (!isPair(a, b) || !has(onVertices, a) || !has(onVertices, b) || has(neighbours[a], b)) {
            return false;
        }
        return sizeWith(onVertices, a, b) > greatest[onVertices];
    }

    public int needed() {
        int dispensable = freeVertices();
        return count(onVertices) - count(dispensable);
    }

    private static boolean isVertex(int v) {
        return v >= 0 && v < VERTICES;
    }

    private static boolean isPair(int a, int b) {
        return isVertex(a) && isVertex(b) && a != b;
    }

    private static boolean has(int set, int v) {
        return (set >> v & 1) == 1;
    }

    private static int without(int set, int v) {
        return set & ~(1 << v);
    }

    private static int count(int set) {
        int found = 0;
        for (int v = 0; v < VERTICES; v++) {
            found += set >> v & 1;
        }
        return found;
    }

    /** Answers 1 if the edge was not there before, 0 if it was. */
    private int join(int a, int b) {
        int added = has(neighbours[a], b) ? 0 : 1;
        neighbours[a] |= 1 << b;
        neighbours[b] |= 1 << a;
        return added;
    }

    private void separate(int a, int b) {
        neighbours[a] = without(neighbours[a], b);
        neighbours[b] = without(neighbours[b], a);
    }

    /** Sets come after all their subsets, so each is measured by sets that are done. */
    private void measure() {
        greatest[0] = 0;
        for (int set = 1; set < SETS; set++) {
            greatest[set] = measured(set);
        }
    }

    /** The set is not empty: its lowest vertex is missed or has one of the others as partner. */
    private int measured(int set) {
        int v = lowest(set);
        int most = greatest[without(set, v)];
        for (int u = v + 1; u < VERTICES; u++) {
            if (has(set, u) && has(neighbours[v], u)) {
                int size = sizeWith(set, v, u);
                most = size > most ? size : most;
            }
        }
        return most;
    }

    private static int lowest(int set) {
        int v = 0;
        while (v < VERTICES - 1 && !has(set, v)) {
            v++;
        }
        return v;
    }

    /** How many edges a matching inside the set can have if a and b are partners in it. */
    private int sizeWith(int set, int a, int b) {
        int others = set & ~(1 << a) & ~(1 << b);
        return greatest[others] + 1;
    }

    /** Whether some greatest matching inside the set has the edge between a and b. */
    private boolean canTake(int set, int a, int b) {
        return has(set, a) && has(set, b) && has(neighbours[a], b)
            && sizeWith(set, a, b) == greatest[set];
    }

    private int firstPartner(int set, int v) {
        for (int u = 0; u < VERTICES; u++) {
            if (canTake(set, v, u)) {
                return u;
            }
        }
        return NONE;
    }

    /** A vertex is missed by some greatest matching just if leaving it out costs no edge. */
    private boolean isFree(int v) {
        return has(onVertices, v) && greatest[without(onVertices, v)] == greatest[onVertices];
    }

    private int freeVertices() {
        int found = 0;
        for (int v = 0; v < VERTICES; v++) {
            if (isFree(v)) {
                found |= 1 << v;
            }
        }
        return found;
    }

    private int partOf(int v, int free) {
        if (!has(onVertices, v)) {
            return OFF;
        }
        if (has(free, v)) {
            return FREE;
        }
        return (neighbours[v] & free) != 0 ? BORDER : CORE;
    }

    private int groupOf(int v, int free) {
        int group = 1 << v;
        // Each round goes one edge farther, and no way is longer than the vertices are many.
        for (int round = 1; round < VERTICES; round++) {
            group |= neighboursOf(group) & free;
        }
        return group;
    }

    private int neighboursOf(int set) {
        int found = 0;
        for (int v = 0; v < VERTICES; v++) {
            if (has(set, v)) {
                found |= neighbours[v];
            }
        }
        return found;
    }
}
