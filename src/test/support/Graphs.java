import java.util.ArrayList;
import java.util.List;

/** Graphs to ask about, and all that can be asked about one. */
final class Graphs {
    static final int N = 10;
    static final int EVERY = 1023;
    static final int LEAST = Integer.MIN_VALUE;
    static final int MOST = Integer.MAX_VALUE;

    /** Beside the vertices, far from them, and such as a shift or a sum would wrap to a vertex. */
    static final int[] NO_VERTEX = {
        -1, -2, 10, 11, 31, 32, 33, 64, 256, -31, -32, 65536, LEAST, LEAST + 1, LEAST + 9, MOST, MOST - 1};

    private Graphs() {
    }

    static MatchingStructure of(int... ends) {
        MatchingStructure x = new MatchingStructure();
        for (int i = 0; i < ends.length; i += 2) {
            x.edge(ends[i], ends[i + 1], true);
        }
        return x;
    }

    /** The edges from each number of the row to the next one. */
    static MatchingStructure path(int... row) {
        MatchingStructure x = new MatchingStructure();
        for (int i = 1; i < row.length; i++) {
            x.edge(row[i - 1], row[i], true);
        }
        return x;
    }

    static MatchingStructure star(int centre) {
        MatchingStructure x = new MatchingStructure();
        for (int v = 0; v < N; v++) {
            if (v != centre) {
                x.edge(centre, v, true);
            }
        }
        return x;
    }

    static MatchingStructure withAllEdges() {
        MatchingStructure x = new MatchingStructure();
        for (int a = 0; a < N; a++) {
            for (int b = 0; b < a; b++) {
                x.edge(a, b, true);
            }
        }
        return x;
    }

    /** A star (border 0, free 1 and 2), a free triangle 3 4 5, a core pair 6 7, 8 off, 9 alone. */
    static MatchingStructure mixed() {
        MatchingStructure x = of(0, 1, 0, 2, 6, 7, 0, 6, 8, 7);
        x.circle(3, 5);
        x.turn(8, false);
        return x;
    }

    static MatchingStructure withOnly(int on, MatchingStructure x) {
        for (int v = 0; v < N; v++) {
            x.turn(v, isIn(on, v));
        }
        return x;
    }

    static boolean isIn(int set, int v) {
        return (set >> v & 1) == 1;
    }

    static int set(int... vertices) {
        int mask = 0;
        for (int v : vertices) {
            mask |= 1 << v;
        }
        return mask;
    }

    /** Which vertices are on, from the part of each. */
    static int onSet(MatchingStructure x) {
        return x.members(1) | x.members(2) | x.members(3);
    }

    static int edgesTakenAway(MatchingStructure x) {
        int found = 0;
        for (int a = 0; a < N; a++) {
            for (int b = 0; b < a; b++) {
                found += x.edge(a, b, false);
            }
        }
        return found;
    }

    /** Every question that can be asked with vertices, with its answer: 297 calls. */
    static List<String> questions(MatchingStructure x) {
        List<String> answers = new ArrayList<>();
        answers.add("size() = " + x.size());
        answers.add("missed() = " + x.missed());
        answers.add("groups() = " + x.groups());
        answers.add("needed() = " + x.needed());
        for (int part = 1; part <= 3; part++) {
            answers.add("members(" + part + ") = " + x.members(part));
        }
        for (int v = 0; v < N; v++) {
            answers.add("part(" + v + ") = " + x.part(v));
            answers.add("partner(" + v + ") = " + x.partner(v));
        }
        for (int a = 0; a < N; a++) {
            for (int b = 0; b < N; b++) {
                if (a != b) {
                    answers.add("inSome(" + a + ", " + b + ") = " + x.inSome(a, b));
                    answers.add("inAll(" + a + ", " + b + ") = " + x.inAll(a, b));
                    answers.add("helps(" + a + ", " + b + ") = " + x.helps(a, b));
                }
            }
        }
        return answers;
    }

    /** The questions, and then each edge taken away and each vertex switched on: 352 calls. */
    static List<String> everything(MatchingStructure x) {
        List<String> answers = questions(x);
        for (int a = 0; a < N; a++) {
            for (int b = 0; b < a; b++) {
                answers.add("edge(" + a + ", " + b + ", false) = " + x.edge(a, b, false));
            }
            answers.add("turn(" + a + ", true) = " + x.turn(a, true));
        }
        return answers;
    }

    /** Row for row, so that what differs is told by its call. */
    static void dueSame(String what, List<String> got, List<String> want) {
        Check.due(what + ", answers", got.size(), want.size());
        for (int i = 0; i < want.size(); i++) {
            Check.due(what + ", later", got.get(i), want.get(i));
        }
    }
}
