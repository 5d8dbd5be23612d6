import java.util.List;

/** One test for each sentence of the document that names a boundary, in the document's order. */
public final class SentencesTest {
    private static final int N = Graphs.N;
    private static final int OFF = MatchingStructure.OFF;
    private static final int FREE = MatchingStructure.FREE;
    private static final int BORDER = MatchingStructure.BORDER;
    private static final int CORE = MatchingStructure.CORE;
    private static final int NONE = MatchingStructure.NONE;

    // ---- What it is

    private static void the512thCall() {
        Check.sentence("What it is", "An object is used for at most 512 calls after it has been made");
        MatchingStructure edges = new MatchingStructure();
        MatchingStructure turns = new MatchingStructure();
        MatchingStructure circles = new MatchingStructure();
        for (int call = 1; call <= 512; call++) {
            boolean odd = call % 2 == 1;
            Check.due("edge, call " + call, edges.edge(0, 9, odd), odd ? 0 : 1);
            Check.due("turn, call " + call, turns.turn(9, !odd), odd ? 1 : 0);
            Check.due("circle, call " + call, circles.circle(0, 9), call == 1 ? 10 : 0);
        }
    }

    private static void the512thCallAfterClears() {
        MatchingStructure x = new MatchingStructure();
        for (int call = 1; call <= 509; call++) {
            x.clear();
        }
        Check.due("edge after clears, call 510", x.edge(0, 9, true), 0);
        Check.due("turn after clears, call 511", x.turn(8, false), 1);
        Check.due("size after clears, call 512", x.size(), 1);
    }

    /** The triangle 0 1 2 with 3 hanging on it, so that no answer is the one of a new object. */
    private static void the512thQuestion() {
        for (int kind = 0; kind < 10; kind++) {
            MatchingStructure x = Graphs.of(0, 1, 1, 2, 2, 0, 0, 3);
            for (int call = 5; call <= 512; call++) {
                question(x, kind, call);
            }
        }
    }

    private static void question(MatchingStructure x, int kind, int call) {
        String at = ", call " + call;
        switch (kind) {
            case 0 -> Check.due("size" + at, x.size(), 2);
            case 1 -> Check.due("missed" + at, x.missed(), 6);
            case 2 -> Check.due("part" + at, x.part(3), CORE);
            case 3 -> Check.due("members" + at, x.members(CORE), Graphs.set(0, 1, 2, 3));
            case 4 -> Check.due("groups" + at, x.groups(), 6);
            case 5 -> Check.due("partner" + at, x.partner(3), 0);
            case 6 -> Check.due("inSome" + at, x.inSome(2, 1), true);
            case 7 -> Check.due("inAll" + at, x.inAll(3, 0), true);
            case 8 -> Check.due("helps" + at, x.helps(8, 9), true);
            default -> Check.due("needed" + at, x.needed(), 4);
        }
    }

    // ---- Terms

    private static void tenVertices() {
        Check.sentence("Terms", "There are ten VERTICES (0 to 9), each ON or off");
        for (int on = 0; on <= Graphs.EVERY; on++) {
            MatchingStructure x = Graphs.withOnly(on, new MatchingStructure());
            Check.due("on of " + on, Graphs.onSet(x), on);
            for (int v = 0; v < N; v++) {
                Check.due("off of " + on + ", part(" + v + ")", x.part(v) == OFF, !Graphs.isIn(on, v));
            }
        }
    }

    private static void edgeBetweenAnyTwo() {
        Check.sentence("Terms", "between any two different ones an edge or none");
        for (int a = 0; a < N; a++) {
            for (int b = 0; b < N; b++) {
                if (a != b) {
                    oneEdge(a, b);
                    allEdgesButOne(a, b);
                }
            }
        }
    }

    private static void oneEdge(int a, int b) {
        String edge = "edge " + a + "-" + b + " alone, ";
        MatchingStructure x = Graphs.of(a, b);
        Check.due(edge + "from the other end", x.edge(b, a, true), 1);
        Check.due(edge + "size", x.size(), 1);
        Check.due(edge + "matched", x.members(CORE), Graphs.set(a, b));
        Check.due(edge + "in all", x.inAll(b, a), true);
        Check.due(edge + "edges", Graphs.edgesTakenAway(x), 1);
    }

    private static void allEdgesButOne(int a, int b) {
        String edge = "all edges but " + a + "-" + b + ", ";
        MatchingStructure x = Graphs.withAllEdges();
        Check.due(edge + "taken", x.edge(a, b, false), 1);
        Check.due(edge + "from the other end", x.edge(b, a, false), 0);
        Check.due(edge + "in some", x.inSome(a, b), false);
        Check.due(edge + "size", x.size(), 5);
        Check.due(edge + "edges", Graphs.edgesTakenAway(x), 44);
    }

    /** A graph with a vertex off answers as the graph in which that vertex has no edges either. */
    private static void offWithTheirEdges() {
        Check.sentence("Terms", "Vertices that are off are as if they were not there, with their edges.");
        for (int v = 0; v < N; v++) {
            sameWithoutEdgesOf(v, "star, ", Graphs.star(9), Graphs.star(9));
            sameWithoutEdgesOf(v, "all edges, ", Graphs.withAllEdges(), Graphs.withAllEdges());
            sameWithoutEdgesOf(v, "path, ", Graphs.path(0, 1, 2, 3, 4, 5, 6, 7, 8, 9),
                Graphs.path(0, 1, 2, 3, 4, 5, 6, 7, 8, 9));
            sameWithoutEdgesOf(v, "mixed, ", Graphs.mixed(), Graphs.mixed());
        }
    }

    private static void sameWithoutEdgesOf(int v, String graph, MatchingStructure x, MatchingStructure bare) {
        x.turn(v, false);
        bare.turn(v, false);
        for (int u = 0; u < N; u++) {
            bare.edge(u, v, false);
        }
        Graphs.dueSame(graph + v + " off", Graphs.questions(x), Graphs.questions(bare));
    }

    private static void noTwoShareAVertex() {
        Check.sentence("Terms", "A MATCHING is a set of edges no two of which share a vertex");
        for (int centre = 0; centre < N; centre++) {
            Check.due("star around " + centre, Graphs.star(centre).size(), 1);
        }
        for (int last = 2; last <= 9; last++) {
            MatchingStructure x = new MatchingStructure();
            x.circle(0, last);
            Check.due("circle of " + (last + 1), x.size(), (last + 1) / 2);
        }
    }

    private static void missesThoseThatAreOn() {
        Check.sentence("Terms", "it MISSES the vertices that are on and lie on none of its edges");
        MatchingStructure x = Graphs.star(9);
        for (int leaf = 0; leaf < 8; leaf++) {
            Check.due("star with " + (9 - leaf) + " leaves", x.missed(), 8 - leaf);
            x.turn(leaf, false);
        }
        Check.due("star with 1 leaf", x.missed(), 0);
        x.turn(8, false);
        Check.due("star without leaves", x.missed(), 1);
        x.turn(9, false);
        Check.due("all off", x.missed(), 0);
    }

    private static void greatest() {
        Check.sentence("Terms", "A matching is GREATEST if no matching has more edges.");
        // The inner edge can't be added to, but two others make a matching with more edges.
        MatchingStructure x = Graphs.of(4, 5, 3, 4, 5, 6);
        Check.due("path of four, size", x.size(), 2);
        Check.due("path of four, inner edge", x.inSome(4, 5), false);
        MatchingStructure path = Graphs.path(9, 0, 8, 1, 7, 2, 6, 3, 5, 4);
        Check.due("path of ten, size", path.size(), 5);
        Check.due("path of ten, its first edge", path.inAll(0, 9), true);
        Check.due("path of ten, its second edge", path.inSome(0, 8), false);
    }

    private static void freeVertices() {
        Check.sentence("Terms", "FREE vertices are those that some greatest matching misses");
        Check.due("path of ten", Graphs.path(0, 1, 2, 3, 4, 5, 6, 7, 8, 9).members(FREE), 0);
        MatchingStructure nine = Graphs.path(0, 1, 2, 3, 4, 5, 6, 7, 8);
        Check.due("path of nine", nine.members(FREE), Graphs.set(0, 2, 4, 6, 8, 9));
        nine.edge(8, 0, true);
        Check.due("circle of nine", nine.members(FREE), Graphs.EVERY);
        nine.edge(8, 9, true);
        Check.due("circle of nine with a tail", nine.members(FREE), 0);
    }

    private static void borderVertices() {
        Check.sentence("Terms", "BORDER vertices are not free but have an edge to a free one");
        MatchingStructure nine = Graphs.path(0, 1, 2, 3, 4, 5, 6, 7, 8);
        Check.due("path of nine", nine.members(BORDER), Graphs.set(1, 3, 5, 7));
        MatchingStructure triangle = Graphs.of(0, 1, 1, 2, 2, 0);
        Check.due("free ones with edges to free ones", triangle.members(BORDER), 0);
        MatchingStructure x = Graphs.of(0, 1, 1, 2);
        Check.due("with two that are free", x.part(1), BORDER);
        x.turn(2, false);
        Check.due("with one of them off", x.part(1), CORE);
        x.turn(2, true);
        x.edge(1, 2, false);
        Check.due("with no edge to it", x.part(1), CORE);
    }

    private static void coreVertices() {
        Check.sentence("Terms", "all others are CORE vertices");
        // 6 has an edge to the border vertex 0 alone, and that does not make it a border vertex.
        MatchingStructure x = Graphs.of(0, 1, 0, 2, 0, 6, 6, 7);
        Check.due("beside a border vertex", x.members(CORE), Graphs.set(6, 7));
        Check.due("path of ten", Graphs.path(0, 1, 2, 3, 4, 5, 6, 7, 8, 9).members(CORE), Graphs.EVERY);
        Check.due("no edges", new MatchingStructure().members(CORE), 0);
        Check.due("star", Graphs.star(0).members(CORE), 0);
    }

    private static void threeParts() {
        Check.sentence("Terms", "THREE PARTS of the vertices that are on");
        for (int on = 0; on <= Graphs.EVERY; on++) {
            MatchingStructure x = Graphs.withOnly(on, Graphs.path(0, 1, 2, 3, 4, 5, 6, 7, 8, 9));
            int free = x.members(FREE);
            int border = x.members(BORDER);
            int core = x.members(CORE);
            Check.due("path with on " + on + ", all parts", free | border | core, on);
            Check.due("path with on " + on + ", in two parts", free & border | free & core | border & core, 0);
        }
    }

    private static void groupsHangTogether() {
        Check.sentence("Terms", "A GROUP is a set of free vertices that hang together by edges between free vertices");
        MatchingStructure x = Graphs.of(0, 1, 1, 2, 2, 0, 3, 4, 4, 5, 5, 3, 6, 0, 6, 3, 6, 7);
        Check.due("border of two triangles and one alone", x.members(BORDER), Graphs.set(6));
        Check.due("two triangles, 7, 8 and 9", x.groups(), 5);
        x.turn(6, false);
        Check.due("the one between them off", x.groups(), 5);
        x.turn(7, false);
        x.turn(8, false);
        x.turn(9, false);
        Check.due("the two triangles", x.groups(), 2);
        MatchingStructure ten = Graphs.withAllEdges();
        Check.due("no free vertices", ten.groups(), 0);
    }

    private static void groupsAsLargeAsPossible() {
        Check.sentence("Terms", "as large as possible");
        MatchingStructure bow = Graphs.of(0, 1, 1, 2, 2, 0, 2, 3, 3, 4, 4, 2);
        Check.due("two triangles that share a vertex, and five alone", bow.groups(), 6);
        // Each step along this circle passes over most others, up and down in turns.
        MatchingStructure nine = Graphs.path(0, 9, 1, 8, 2, 7, 3, 6, 4, 0);
        Check.due("circle of nine and one alone", nine.groups(), 2);
        nine.turn(5, false);
        Check.due("circle of nine", nine.groups(), 1);
        // Ears on a triangle: a group that is no circle.
        MatchingStructure ears = Graphs.path(9, 5, 7, 9, 0, 1, 5, 2, 3, 7, 4, 6, 9);
        Check.due("nine vertices with ears and one alone", ears.groups(), 2);
    }

    private static void duePartners(String graph, MatchingStructure x, int... want) {
        for (int v = 0; v < N; v++) {
            Check.due(graph + ", partner(" + v + ")", x.partner(v), want[v]);
        }
    }

    private static void orderedByVertex() {
        Check.sentence("Terms", "MATCHINGS ARE ORDERED by the partner of vertex 0, then of vertex 1, and so on");
        MatchingStructure all = Graphs.withAllEdges();
        duePartners("all edges", all, 1, 0, 3, 2, 5, 4, 7, 6, 9, 8);
        all.edge(0, 1, false);
        duePartners("all but 0-1", all, 2, 3, 0, 1, 5, 4, 7, 6, 9, 8);
        all.edge(8, 9, false);
        duePartners("all but 0-1 and 8-9", all, 2, 3, 0, 1, 5, 4, 8, 9, 6, 7);
        // 0 comes first: it takes 2, though 1 would have a smaller partner if it took 3.
        MatchingStructure x = Graphs.of(0, 3, 0, 2, 1, 2, 1, 3);
        duePartners("0 before 1", x, 2, 3, 0, 1, NONE, NONE, NONE, NONE, NONE, NONE);
        MatchingStructure last = Graphs.of(6, 9, 6, 8, 7, 8, 7, 9);
        duePartners("6 before 7", last, NONE, NONE, NONE, NONE, NONE, NONE, 8, 9, 6, 7);
    }

    private static void smallerPartnersFirst() {
        Check.sentence("Terms", "smaller partners first");
        for (int centre = 0; centre < N; centre++) {
            int leaf = centre == 0 ? 1 : 0;
            Check.due("star, its centre " + centre, Graphs.star(centre).partner(centre), leaf);
            Check.due("star, its leaf " + leaf, Graphs.star(centre).partner(leaf), centre);
        }
        // The smallest partner of 0 is no choice where the matching would not be greatest.
        MatchingStructure x = Graphs.of(0, 1, 0, 9, 1, 8);
        duePartners("greatest goes before", x, 9, 8, NONE, NONE, NONE, NONE, NONE, NONE, 1, 0);
    }

    private static void noPartnerComesLast() {
        Check.sentence("Terms", "no partner (or a vertex that is off) coming after all partners");
        MatchingStructure star = Graphs.star(9);
        for (int leaf = 0; leaf < 9; leaf++) {
            Check.due("star, leaf " + leaf + " the first that is on", star.partner(leaf), 9);
            Check.due("star, centre with leaf " + leaf, star.partner(9), leaf);
            star.turn(leaf, false);
            Check.due("star, leaf " + leaf + " off", star.partner(leaf), NONE);
        }
        Check.due("star, all leaves off", star.partner(9), NONE);
        // 0 has a partner, the greatest there is, and leaves 1 without one.
        duePartners("9 comes before none", Graphs.of(1, 9, 0, 9),
            9, NONE, NONE, NONE, NONE, NONE, NONE, NONE, NONE, 0);
        MatchingStructure seven = new MatchingStructure();
        seven.circle(2, 8);
        duePartners("circle of seven", seven, NONE, NONE, 3, 2, 5, 4, 7, 6, NONE, NONE);
        seven.turn(2, false);
        duePartners("circle of seven without 2", seven, NONE, NONE, NONE, 4, 3, 6, 5, 8, 7, NONE);
    }

    // ---- Promises

    private static void newObject() {
        Check.sentence("Promise 1", "All vertices are on; no edges.");
        MatchingStructure x = new MatchingStructure();
        Check.due("on", Graphs.onSet(x), Graphs.EVERY);
        for (int v = 0; v < N; v++) {
            Check.due("turn(" + v + ", true)", x.turn(v, true), 1);
        }
        Check.due("edges", Graphs.edgesTakenAway(x), 0);
        Graphs.withOnly(0, Graphs.withAllEdges());
        Check.due("on, after changes to another", Graphs.onSet(new MatchingStructure()), Graphs.EVERY);
        Check.due("edges, after changes to another", Graphs.edgesTakenAway(new MatchingStructure()), 0);
    }

    private static void edgeSetAndTaken() {
        Check.sentence("Promise 2", "Sets an edge or takes it away.", "Else answers 1 if it was there, 0 if not.");
        MatchingStructure x = new MatchingStructure();
        for (int a = 0; a < N; a++) {
            for (int b = 0; b < a; b++) {
                String edge = "edge " + a + "-" + b;
                Check.due(edge + " taken, not there", x.edge(a, b, false), 0);
                Check.due(edge + " set", x.edge(b, a, true), 0);
                Check.due(edge + " set again", x.edge(a, b, true), 1);
                Check.due(edge + " taken", x.edge(a, b, false), 1);
                Check.due(edge + " taken again", x.edge(b, a, false), 0);
                Check.due(edge + " set for good", x.edge(a, b, true), 0);
            }
        }
        Check.due("all edges, size", x.size(), 5);
    }

    private static void edgeWithEndsOff() {
        Check.sentence("Promise 2", "Sets an edge or takes it away.", "answers 1 if it was there, 0 if not.");
        for (int off = 1; off <= 3; off++) {
            String ends = "ends off " + off + ", ";
            MatchingStructure x = new MatchingStructure();
            x.turn(0, (off & 1) == 0);
            x.turn(9, (off & 2) == 0);
            Check.due(ends + "set", x.edge(0, 9, true), 0);
            Check.due(ends + "set again", x.edge(9, 0, true), 1);
            Check.due(ends + "size", x.size(), 0);
            Check.due(ends + "on", Graphs.onSet(x), Graphs.EVERY - (off & 1) - (off & 2) / 2 * 512);
            Check.due(ends + "taken", x.edge(0, 9, false), 1);
            Check.due(ends + "taken again", x.edge(0, 9, false), 0);
            Check.due(ends + "set at last", x.edge(0, 9, true), 0);
            x.turn(0, true);
            x.turn(9, true);
            Check.due(ends + "size with both on", x.size(), 1);
        }
    }

    private static void turnAnswers() {
        Check.sentence("Promise 3", "Else answers 1 if it was on, 0 if not.");
        for (MatchingStructure x : List.of(new MatchingStructure(), Graphs.withAllEdges())) {
            for (int v = 0; v < N; v++) {
                Check.due("turn(" + v + ", true), on", x.turn(v, true), 1);
                Check.due("turn(" + v + ", false), on", x.turn(v, false), 1);
                Check.due("turn(" + v + ", false), off", x.turn(v, false), 0);
                Check.due("turn(" + v + ", true), off", x.turn(v, true), 0);
                Check.due("turn(" + v + ", false), on again", x.turn(v, false), 1);
                Check.due("on after " + v, Graphs.onSet(x), Graphs.EVERY & -(2 << v));
            }
        }
    }

    private static void edgesStay() {
        Check.sentence("Promise 3", "Switches a vertex on or off; its edges stay.");
        List<String> want = Graphs.everything(Graphs.withAllEdges());
        for (int on = 0; on <= Graphs.EVERY; on += 33) {
            MatchingStructure x = Graphs.withOnly(on, Graphs.withAllEdges());
            Graphs.dueSame("off and on again, all but " + on,
                Graphs.everything(Graphs.withOnly(Graphs.EVERY, x)), want);
        }
        MatchingStructure off = Graphs.withOnly(0, Graphs.withAllEdges());
        Check.due("edges of vertices that are off", Graphs.edgesTakenAway(off), 45);
        Check.due("edges that were taken from vertices that are off",
            Graphs.edgesTakenAway(Graphs.withOnly(Graphs.EVERY, off)), 0);
    }

    private static void circleSetsItsEdges() {
        Check.sentence("Promise 4", "Sets the edges of a circle over the vertices from a to b in ascending order, back from b to a");
        for (int a = 0; a < N; a++) {
            for (int b = a + 2; b < N; b++) {
                String name = "circle(" + a + ", " + b + ")";
                MatchingStructure x = new MatchingStructure();
                Check.due(name, x.circle(a, b), b - a + 1);
                Check.due(name + ", on", Graphs.onSet(x), Graphs.EVERY);
                Check.due(name + ", back", x.edge(b, a, false), 1);
                for (int v = a; v < b; v++) {
                    Check.due(name + ", on from " + v, x.edge(v + 1, v, false), 1);
                }
                Check.due(name + ", other edges", Graphs.edgesTakenAway(x), 0);
            }
        }
    }

    private static void circleOfThree() {
        Check.sentence("Promise 4", "(for b - a at least 2)");
        for (int a = 0; a + 2 < N; a++) {
            MatchingStructure x = new MatchingStructure();
            Check.due("b - a is 1, circle from " + a, x.circle(a, a + 1), -1);
            Check.due("b - a is 2, circle from " + a, x.circle(a, a + 2), 3);
            Check.due("b - a is 2, size", x.size(), 1);
            Check.due("b - a is 2, groups", x.groups(), 8);
        }
        MatchingStructure x = new MatchingStructure();
        Check.due("from 8 to 9", x.circle(8, 9), -1);
        Check.due("from 8 to 10", x.circle(8, 10), -1);
        Check.due("from 9 to 11", x.circle(9, 11), -1);
        Check.due("from -1 to 1", x.circle(-1, 1), -1);
        Check.due("edges of refused circles", Graphs.edgesTakenAway(x), 0);
    }

    private static void circleAnswers() {
        Check.sentence("Promise 4", "Else answers how many edges were not there before.");
        MatchingStructure x = Graphs.withAllEdges();
        Check.due("all there", x.circle(0, 9), 0);
        x.edge(9, 0, false);
        Check.due("the one back not there", x.circle(0, 9), 1);
        x.edge(8, 9, false);
        Check.due("the last one not there", x.circle(0, 9), 1);
        x.edge(0, 1, false);
        Check.due("the first one not there", x.circle(0, 9), 1);
        x.edge(0, 2, false);
        Check.due("one beside it not there", x.circle(0, 9), 0);
        Check.due("edges then", Graphs.edgesTakenAway(x), 44);
        Check.due("none there", x.circle(0, 9), 10);
    }

    private static void circleOverVerticesThatAreOff() {
        Check.sentence("Promise 4", "over the vertices from a to b", "how many edges were not there before.");
        MatchingStructure x = Graphs.withOnly(0, new MatchingStructure());
        x.edge(4, 5, true);
        Check.due("all off", x.circle(0, 9), 9);
        Check.due("all off, again", x.circle(0, 9), 0);
        Check.due("all stay off", Graphs.onSet(x), 0);
        Graphs.withOnly(Graphs.EVERY, x);
        Check.due("size with all on", x.size(), 5);
        Check.due("edges", Graphs.edgesTakenAway(x), 10);
    }

    private static void clear() {
        Check.sentence("Promise 5", "Takes all edges away and switches all vertices on.");
        List<String> want = Graphs.everything(new MatchingStructure());
        dueCleared("new", new MatchingStructure(), want);
        dueCleared("all edges", Graphs.withAllEdges(), want);
        dueCleared("mixed", Graphs.mixed(), want);
        dueCleared("no edges, all off", Graphs.withOnly(0, new MatchingStructure()), want);
        dueCleared("all edges, all off", Graphs.withOnly(0, Graphs.withAllEdges()), want);
        for (int v = 0; v < N; v++) {
            dueCleared(v + " off", Graphs.withOnly(Graphs.EVERY - (1 << v), Graphs.star(v)), want);
        }
        MatchingStructure x = Graphs.withAllEdges();
        x.clear();
        x.clear();
        Check.due("circle after clear", x.circle(0, 9), 10);
        Check.due("size after clear and circle", x.size(), 5);
    }

    private static void dueCleared(String graph, MatchingStructure x, List<String> want) {
        x.clear();
        Graphs.dueSame(graph + " cleared", Graphs.everything(x), want);
    }

    /** Edges beside each other, from none to as many as ten vertices have room for. */
    private static void pairsOneByOne() {
        MatchingStructure x = new MatchingStructure();
        for (int pairs = 0; pairs <= 5; pairs++) {
            String graph = pairs + " pairs";
            Check.sentence("Promise 6", "How many edges a greatest matching has.");
            Check.due(graph, x.size(), pairs);
            Check.sentence("Promise 7", "How many vertices a greatest matching misses.");
            Check.due(graph, x.missed(), 10 - 2 * pairs);
            Check.sentence("Promise 10", "How many groups there are.");
            Check.due(graph, x.groups(), 10 - 2 * pairs);
            Check.sentence("Promise 15", "How many vertices there are that are on and without which (switched off) ..");
            Check.due(graph, x.needed(), 2 * pairs);
            x.edge(pairs, 9 - pairs, true);
        }
    }

    private static void part() {
        Check.sentence("Promise 8", "What part the vertex belongs to; OFF if it is off.");
        int[] want = {BORDER, FREE, FREE, FREE, FREE, FREE, CORE, CORE, OFF, FREE};
        MatchingStructure x = Graphs.mixed();
        for (int v = 0; v < N; v++) {
            Check.due("part(" + v + ")", x.part(v), want[v]);
        }
        for (int v = 0; v < N; v++) {
            x.turn(v, false);
            Check.due("part(" + v + ") off", x.part(v), OFF);
        }
    }

    private static void members() {
        Check.sentence("Promise 9", "The vertices of a part, FREE, BORDER or CORE, as a mask; 0 for any other number.");
        MatchingStructure x = Graphs.mixed();
        Check.due("FREE", x.members(FREE), Graphs.set(1, 2, 3, 4, 5, 9));
        Check.due("BORDER", x.members(BORDER), Graphs.set(0));
        Check.due("CORE", x.members(CORE), Graphs.set(6, 7));
        MatchingStructure off = Graphs.withOnly(0, Graphs.withAllEdges());
        for (MatchingStructure graph : List.of(x, off, Graphs.withAllEdges(), new MatchingStructure())) {
            Check.due("members(OFF)", graph.members(OFF), 0);
            Check.due("members(BAD_VERTEX)", graph.members(MatchingStructure.BAD_VERTEX), 0);
            Check.due("members(NONE)", graph.members(NONE), 0);
            Check.due("members(4)", graph.members(4), 0);
            for (int other : Graphs.NO_VERTEX) {
                Check.due("members(" + other + ")", graph.members(other), 0);
            }
            for (int wrapped = 1; wrapped <= 3; wrapped++) {
                Check.due("least int and " + wrapped, graph.members(Graphs.LEAST + wrapped), 0);
                Check.due("256 and " + wrapped, graph.members(256 + wrapped), 0);
                Check.due("minus " + wrapped, graph.members(-wrapped), 0);
            }
        }
    }

    private static void groups() {
        Check.sentence("Promise 10", "How many groups there are.");
        for (int leaves = 0; leaves < N; leaves++) {
            // With one leaf both ends are core; without any the centre is free itself.
            MatchingStructure x = Graphs.withOnly((1 << leaves) - 1 | 512, Graphs.star(9));
            Check.due("star with " + leaves + " leaves", x.groups(), leaves == 0 ? 1 : leaves == 1 ? 0 : leaves);
        }
        for (int many = 3; many <= N; many++) {
            MatchingStructure x = Graphs.withOnly((1 << many) - 1, new MatchingStructure());
            x.circle(0, many - 1);
            Check.due("circle of " + many, x.groups(), many % 2);
        }
    }

    private static void partnerNone() {
        Check.sentence("Promise 11", "NONE if it has none or is off.");
        MatchingStructure x = Graphs.of(0, 1, 1, 2, 8, 9);
        Check.due("has none though it has an edge", x.partner(2), NONE);
        Check.due("has no edge", x.partner(5), NONE);
        x.turn(9, false);
        Check.due("is off", x.partner(9), NONE);
        Check.due("has its only neighbour off", x.partner(8), NONE);
        x.turn(0, false);
        Check.due("is off, with 0", x.partner(0), NONE);
        Check.due("has one now", x.partner(2), 1);
        x.turn(9, true);
        Check.due("is on again", x.partner(9), 8);
    }

    private static void inSome() {
        Check.sentence("Promise 12", "Whether some greatest matching has the edge between a and b.");
        MatchingStructure x = Graphs.of(0, 1, 1, 2, 2, 3, 8, 9);
        Check.due("in every one", x.inSome(0, 1), true);
        Check.due("in none", x.inSome(2, 1), false);
        Check.due("no edge, in one so far if it were there", x.inSome(4, 5), false);
        x.turn(3, false);
        Check.due("in one of two", x.inSome(1, 2), true);
        Check.due("in the other of two", x.inSome(1, 0), true);
        Check.due("an end off", x.inSome(2, 3), false);
        x.turn(8, false);
        x.turn(9, false);
        Check.due("both ends off", x.inSome(8, 9), false);
        x.edge(1, 2, false);
        Check.due("taken away", x.inSome(1, 2), false);
    }

    private static void inAll() {
        Check.sentence("Promise 13", "Whether every greatest matching has the edge between a and b.");
        MatchingStructure x = Graphs.of(0, 1, 8, 9);
        Check.due("the only one there", x.inAll(0, 1), true);
        Check.due("the only one there, from 1", x.inAll(1, 0), true);
        x.edge(1, 2, true);
        Check.due("one of two", x.inAll(0, 1), false);
        Check.due("one of two, from 1", x.inAll(1, 0), false);
        x.edge(2, 3, true);
        Check.due("again the only one", x.inAll(0, 1), true);
        x.edge(3, 0, true);
        Check.due("a circle of four", x.inAll(0, 1), false);
        Check.due("beside a circle of four", x.inAll(9, 8), true);
        x.turn(9, false);
        Check.due("an end off", x.inAll(9, 8), false);
        x.turn(8, false);
        Check.due("both ends off", x.inAll(9, 8), false);
        Check.due("no edges at all", new MatchingStructure().inAll(0, 1), false);
    }

    /** Two greatest matchings take turns along such a circle: each edge is in one, none in both. */
    private static void inAllOfAnEvenCircle() {
        Check.sentence("Promise 13", "Whether every greatest matching has the edge between a and b.");
        for (int a = 0; a < N; a++) {
            for (int b = a + 3; b < N; b += 2) {
                String name = "circle(" + a + ", " + b + "), ";
                MatchingStructure x = new MatchingStructure();
                x.circle(a, b);
                for (int v = a; v <= b; v++) {
                    int next = v == b ? a : v + 1;
                    Check.due(name + v + " and " + next + " in some", x.inSome(v, next), true);
                    Check.due(name + v + " and " + next + " in all", x.inAll(v, next), false);
                    Check.due(name + next + " and " + v + " in all", x.inAll(next, v), false);
                }
            }
        }
    }

    private static void helpsNotThereSoFar() {
        Check.sentence("Promise 14", "not there so far");
        MatchingStructure x = Graphs.of(0, 1);
        Check.due("there already", x.helps(0, 1), false);
        Check.due("there already, from 1", x.helps(1, 0), false);
        x.edge(0, 1, false);
        Check.due("taken away", x.helps(0, 1), true);
        Check.due("taken away, from 1", x.helps(1, 0), true);
        Check.due("asking sets none", x.edge(0, 1, false), 0);
    }

    private static void helpsBothOn() {
        Check.sentence("Promise 14", "and both on");
        MatchingStructure x = new MatchingStructure();
        x.turn(0, false);
        Check.due("0 off", x.helps(0, 9), false);
        Check.due("0 off, from 9", x.helps(9, 0), false);
        x.turn(9, false);
        Check.due("both off", x.helps(0, 9), false);
        x.turn(0, true);
        Check.due("9 off", x.helps(0, 9), false);
        x.turn(9, true);
        Check.due("both on", x.helps(0, 9), true);
    }

    private static void helpsMakesGreater() {
        Check.sentence("Promise 14", "would make the greatest matchings greater");
        MatchingStructure path = Graphs.path(0, 1, 2, 3, 4, 5, 6, 7, 8);
        Check.due("two free ones of one path", path.helps(0, 8), false);
        Check.due("a free one and one alone", path.helps(4, 9), true);
        Check.due("a border one and one alone", path.helps(5, 9), false);
        path.edge(0, 8, true);
        Check.due("of a circle of nine and one alone", path.helps(5, 9), true);
        path.edge(5, 9, true);
        Check.due("all matched", path.helps(0, 9), false);
        Check.due("two leaves of a star", Graphs.star(0).helps(8, 9), true);
        MatchingStructure small = Graphs.withOnly(7, Graphs.star(0));
        Check.due("the two leaves of a star of three", small.helps(1, 2), false);
    }

    private static void needed() {
        Check.sentence("Promise 15", "vertices .. that are on and without which (switched off) a greatest matching would have fewer edges");
        Check.due("path of nine", Graphs.path(0, 1, 2, 3, 4, 5, 6, 7, 8).needed(), 4);
        MatchingStructure ten = Graphs.path(0, 1, 2, 3, 4, 5, 6, 7, 8, 9);
        Check.due("path of ten", ten.needed(), 10);
        ten.turn(9, false);
        Check.due("path of ten, its end off", ten.needed(), 4);
        ten.turn(5, false);
        Check.due("path of ten, its end and 5 off", ten.needed(), 3);
        Check.due("star", Graphs.star(9).needed(), 1);
        MatchingStructure off = Graphs.withOnly(511, Graphs.star(9));
        Check.due("star, its centre off", off.needed(), 0);
        Check.due("mixed", Graphs.mixed().needed(), 3);
    }

    public static void main(String[] args) {
        the512thCall();
        the512thCallAfterClears();
        the512thQuestion();
        tenVertices();
        edgeBetweenAnyTwo();
        offWithTheirEdges();
        noTwoShareAVertex();
        missesThoseThatAreOn();
        greatest();
        freeVertices();
        borderVertices();
        coreVertices();
        threeParts();
        groupsHangTogether();
        groupsAsLargeAsPossible();
        orderedByVertex();
        smallerPartnersFirst();
        noPartnerComesLast();
        newObject();
        edgeSetAndTaken();
        edgeWithEndsOff();
        turnAnswers();
        edgesStay();
        circleSetsItsEdges();
        circleOfThree();
        circleAnswers();
        circleOverVerticesThatAreOff();
        clear();
        pairsOneByOne();
        part();
        members();
        groups();
        partnerNone();
        inSome();
        inAll();
        inAllOfAnEvenCircle();
        helpsNotThereSoFar();
        helpsBothOn();
        helpsMakesGreater();
        needed();
        Check.end();
    }
}
