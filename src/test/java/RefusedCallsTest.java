import java.util.List;
import java.util.function.Consumer;
import java.util.function.Function;
import java.util.function.Supplier;

/**
 * The sentences that stand ahead of the calls: which calls are refused, that refused calls change
 * nothing, and that questions change nothing. Each is tried on graphs of every extreme, and what
 * an object answers afterwards is compared with one that was never asked.
 *
 * A run is all of one kind (all edges set, say, or all taken away), so that no wrong change is
 * undone by the next; it has at most 105 calls, for an object is good for 512: up to 55 make the
 * graph, and 352 ask everything.
 */
public final class RefusedCallsTest {
    private static final int BAD = -1;
    private static final String REFUSED = "refused calls change nothing";

    /** Each graph anew for each run. */
    private static final List<Supplier<MatchingStructure>> GRAPHS = List.of(
        MatchingStructure::new,
        Graphs::withAllEdges,
        Graphs::mixed,
        () -> Graphs.withOnly(0, new MatchingStructure()),
        () -> Graphs.withOnly(0, Graphs.withAllEdges()),
        () -> Graphs.withOnly(1, Graphs.withAllEdges()),
        () -> Graphs.withOnly(512, Graphs.withAllEdges()),
        () -> Graphs.withOnly(1, new MatchingStructure()));

    private static void onAllGraphs(String run, Consumer<MatchingStructure> calls) {
        for (int i = 0; i < GRAPHS.size(); i++) {
            MatchingStructure asked = GRAPHS.get(i).get();
            calls.accept(asked);
            List<String> want = Graphs.everything(GRAPHS.get(i).get());
            Graphs.dueSame("graph " + i + " after " + run, Graphs.everything(asked), want);
        }
    }

    private interface PairCall {
        Object answer(int a, int b);
    }

    /** A wrong number in either place and in both: 85 calls. */
    private static void pairsOutside(String name, PairCall call, Object want) {
        for (int bad : Graphs.NO_VERTEX) {
            pairOutside(name, call, bad, 0, want);
            pairOutside(name, call, bad, 9, want);
            pairOutside(name, call, 0, bad, want);
            pairOutside(name, call, 9, bad, want);
            pairOutside(name, call, bad, bad, want);
        }
    }

    private static void pairOutside(String name, PairCall call, int a, int b, Object want) {
        Check.due(name + " of " + a + ", " + b, call.answer(a, b), want);
    }

    /** Two wrong numbers that differ, the least and the greatest int among them: 6 calls. */
    private static void pairsFarOutside(String name, PairCall call, Object want) {
        pairOutside(name, call, Graphs.LEAST, Graphs.MOST, want);
        pairOutside(name, call, Graphs.MOST, Graphs.LEAST, want);
        pairOutside(name, call, Graphs.MOST, Graphs.LEAST + 1, want);
        pairOutside(name, call, Graphs.MOST - 9, Graphs.MOST, want);
        pairOutside(name, call, -1, 10, want);
        pairOutside(name, call, 10, 12, want);
    }

    private static void pairsTheSame(String name, PairCall call, Object want) {
        for (int v = 0; v < Graphs.N; v++) {
            pairOutside(name, call, v, v, want);
        }
    }

    private static void verticesOutside(String name, Function<Integer, Object> call) {
        for (int bad : Graphs.NO_VERTEX) {
            Check.due(name + " of " + bad, call.apply(bad), BAD);
        }
    }

    private static void edgeOutside() {
        Check.sentence("Terms", "A vertex not in 0 to 9 .. is BAD_VERTEX", REFUSED);
        for (boolean there : new boolean[] {true, false}) {
            onAllGraphs("edges outside", x -> {
                pairsOutside("edge", (a, b) -> x.edge(a, b, there), BAD);
                pairsFarOutside("edge", (a, b) -> x.edge(a, b, there), BAD);
            });
        }
    }

    private static void edgeOfOneVertex() {
        Check.sentence("Terms", "the same vertex twice where two are asked for, is BAD_VERTEX", REFUSED);
        for (boolean there : new boolean[] {true, false}) {
            onAllGraphs("edges of one vertex",
                x -> pairsTheSame("edge", (a, b) -> x.edge(a, b, there), BAD));
        }
    }

    private static void turnOutside() {
        Check.sentence("Promise 3", "BAD_VERTEX", REFUSED);
        for (boolean on : new boolean[] {true, false}) {
            onAllGraphs("turns outside", x -> verticesOutside("turn", v -> x.turn(v, on)));
        }
    }

    private static void circleOutside() {
        Check.sentence("Promise 4", "Not 0 <= a < b <= 9 .. BAD_VERTEX", REFUSED);
        onAllGraphs("circles outside", x -> {
            pairsOutside("circle", x::circle, BAD);
            pairsFarOutside("circle", x::circle, BAD);
        });
    }

    private static void circleBackwards() {
        Check.sentence("Promise 4", "Not .. a < b .. BAD_VERTEX", REFUSED);
        onAllGraphs("circles backwards", x -> {
            for (int a = 0; a < Graphs.N; a++) {
                for (int b = 0; b <= a; b++) {
                    pairOutside("circle", x::circle, a, b, BAD);
                }
            }
        });
    }

    private static void circleTooShort() {
        Check.sentence("Promise 4", "or b - a below 2: BAD_VERTEX", REFUSED);
        onAllGraphs("circles of two", x -> {
            for (int a = 0; a < Graphs.N - 1; a++) {
                pairOutside("circle", x::circle, a, a + 1, BAD);
            }
        });
    }

    private static void partOutside() {
        Check.sentence("Promise 8", "BAD_VERTEX", REFUSED);
        onAllGraphs("parts outside", x -> verticesOutside("part", x::part));
    }

    private static void partnerOutside() {
        Check.sentence("Promise 11", "BAD_VERTEX", REFUSED);
        onAllGraphs("partners outside", x -> verticesOutside("partner", x::partner));
    }

    private static void questionsOutside() {
        Check.sentence("Terms", "A vertex not in 0 to 9 .. is .. (false for booleans)", REFUSED);
        onAllGraphs("inSome outside", x -> {
            pairsOutside("inSome", x::inSome, false);
            pairsFarOutside("inSome", x::inSome, false);
        });
        onAllGraphs("inAll outside", x -> {
            pairsOutside("inAll", x::inAll, false);
            pairsFarOutside("inAll", x::inAll, false);
        });
        onAllGraphs("helps outside", x -> {
            pairsOutside("helps", x::helps, false);
            pairsFarOutside("helps", x::helps, false);
        });
    }

    private static void questionsOfOneVertex() {
        Check.sentence("Terms", "the same vertex twice where two are asked for, is .. (false for booleans)", REFUSED);
        onAllGraphs("inSome of one vertex", x -> pairsTheSame("inSome", x::inSome, false));
        onAllGraphs("inAll of one vertex", x -> pairsTheSame("inAll", x::inAll, false));
        onAllGraphs("helps of one vertex", x -> pairsTheSame("helps", x::helps, false));
    }

    private static void questionsChangeNothing() {
        Check.sentence("Terms", "The calls below change nothing.");
        onAllGraphs("size", MatchingStructure::size);
        onAllGraphs("missed", MatchingStructure::missed);
        onAllGraphs("groups", MatchingStructure::groups);
        onAllGraphs("needed", MatchingStructure::needed);
        onAllGraphs("part", x -> forVertices(x::part));
        onAllGraphs("partner", x -> forVertices(x::partner));
        onAllGraphs("members", x -> {
            forVertices(x::members);
            x.members(BAD);
            x.members(Graphs.LEAST);
            x.members(Graphs.MOST);
        });
        onAllGraphs("inSome", x -> forPairs(x::inSome));
        onAllGraphs("inAll", x -> forPairs(x::inAll));
        onAllGraphs("helps", x -> forPairs(x::helps));
    }

    private static void forVertices(Function<Integer, Object> call) {
        for (int v = 0; v < Graphs.N; v++) {
            call.apply(v);
        }
    }

    private static void forPairs(PairCall call) {
        for (int a = 0; a < Graphs.N; a++) {
            for (int b = 0; b < Graphs.N; b++) {
                call.answer(a, b);
            }
        }
    }

    public static void main(String[] args) {
        edgeOutside();
        edgeOfOneVertex();
        turnOutside();
        circleOutside();
        circleBackwards();
        circleTooShort();
        partOutside();
        partnerOutside();
        questionsOutside();
        questionsOfOneVertex();
        questionsChangeNothing();
        Check.end();
    }
}
