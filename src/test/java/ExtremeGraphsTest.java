/**
 * The graph without edges and the graph with all edges, each with every set of its vertices on:
 * all off and one on among them. What is due there can be told by counting.
 */
public final class ExtremeGraphsTest {
    /** What one such graph is due to answer; a part that is not there has no members. */
    private record Due(int size, int missed, int free, int core, int groups, int needed) {
    }

    private static void whole(String graph, MatchingStructure x, Due due) {
        Check.sentence("Promise 6", "How many edges a greatest matching has.");
        Check.due(graph + ", size()", x.size(), due.size);
        Check.sentence("Promise 7", "How many vertices a greatest matching misses.");
        Check.due(graph + ", missed()", x.missed(), due.missed);
        Check.sentence("Promise 9", "The vertices of a part, FREE, BORDER or CORE, as a mask; 0 for any other number.");
        Check.due(graph + ", members(OFF)", x.members(MatchingStructure.OFF), 0);
        Check.due(graph + ", members(FREE)", x.members(MatchingStructure.FREE), due.free);
        Check.due(graph + ", members(BORDER)", x.members(MatchingStructure.BORDER), 0);
        Check.due(graph + ", members(CORE)", x.members(MatchingStructure.CORE), due.core);
        Check.sentence("Promise 10", "How many groups there are.");
        Check.due(graph + ", groups()", x.groups(), due.groups);
        Check.sentence("Promise 15", "How many vertices there are that are on and without which ..");
        Check.due(graph + ", needed()", x.needed(), due.needed);
        for (int v = 0; v < Graphs.N; v++) {
            Check.sentence("Promise 8", "What part the vertex belongs to; OFF if it is off.");
            int part = Graphs.isIn(due.free, v) ? MatchingStructure.FREE
                : Graphs.isIn(due.core, v) ? MatchingStructure.CORE : MatchingStructure.OFF;
            Check.due(graph + ", part(" + v + ")", x.part(v), part);
        }
    }

    private static void pair(String graph, MatchingStructure x, int a, int b, boolean[] due) {
        String ends = "(" + a + ", " + b + ")";
        Check.sentence("Promise 12", "Whether some greatest matching has the edge between a and b.");
        Check.due(graph + ", inSome" + ends, x.inSome(a, b), due[0]);
        Check.sentence("Promise 13", "Whether every greatest matching has the edge between a and b.");
        Check.due(graph + ", inAll" + ends, x.inAll(a, b), due[1]);
        Check.sentence("Promise 14", "Whether the edge .., not there so far and both on, would make the greatest matchings greater.");
        Check.due(graph + ", helps" + ends, x.helps(a, b), due[2]);
    }

    private static void withoutEdges(int on) {
        String graph = "no edges, on " + Integer.toBinaryString(on);
        MatchingStructure x = Graphs.withOnly(on, new MatchingStructure());
        int many = Integer.bitCount(on);
        whole(graph, x, new Due(0, many, on, 0, many, 0));
        for (int a = 0; a < Graphs.N; a++) {
            Check.sentence("Promise 11", "NONE if it has none or is off.");
            Check.due(graph + ", partner(" + a + ")", x.partner(a), MatchingStructure.NONE);
            for (int b = 0; b < Graphs.N; b++) {
                boolean bothOn = a != b && Graphs.isIn(on, a) && Graphs.isIn(on, b);
                pair(graph, x, a, b, new boolean[] {false, false, bothOn});
            }
        }
    }

    /** An even number of vertices is matched in full; of an odd one any vertex may be missed. */
    private static void withAllEdges(int on) {
        String graph = "all edges, on " + Integer.toBinaryString(on);
        MatchingStructure x = Graphs.withOnly(on, Graphs.withAllEdges());
        int many = Integer.bitCount(on);
        boolean even = many % 2 == 0;
        whole(graph, x, even ? new Due(many / 2, 0, 0, on, 0, many) : new Due(many / 2, 1, on, 0, 1, 0));
        for (int a = 0; a < Graphs.N; a++) {
            Check.sentence("Promise 11", "The partner of a vertex in the first greatest matching; NONE if it has none or is off.");
            Check.due(graph + ", partner(" + a + ")", x.partner(a), neighbourInRow(on, a));
            for (int b = 0; b < Graphs.N; b++) {
                boolean bothOn = a != b && Graphs.isIn(on, a) && Graphs.isIn(on, b);
                pair(graph, x, a, b, new boolean[] {bothOn, bothOn && many == 2, false});
            }
        }
    }

    /** With all edges the first matching takes the vertices two by two as they stand in their row. */
    private static int neighbourInRow(int on, int v) {
        int before = Integer.bitCount(on & (1 << v) - 1);
        int others = before % 2 == 0 ? on & -(2 << v) : on & (1 << v) - 1;
        if (!Graphs.isIn(on, v) || others == 0) {
            return MatchingStructure.NONE;
        }
        int next = before % 2 == 0 ? Integer.lowestOneBit(others) : Integer.highestOneBit(others);
        return Integer.numberOfTrailingZeros(next);
    }

    public static void main(String[] args) {
        for (int on = 0; on <= Graphs.EVERY; on++) {
            withoutEdges(on);
            withAllEdges(on);
        }
        Check.end();
    }
}
