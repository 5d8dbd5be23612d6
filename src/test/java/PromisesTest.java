/** For each promise of the document, by its number: ordinary inputs, named edges, wrong inputs. */
public final class PromisesTest {
    private static void due(int promise, String what, Object got, Object want) {
        Check.due("promise " + promise + ": " + what, got, want);
    }

    private static void newObject() {
        MatchingStructure x = new MatchingStructure();
        for (int v = 0; v < 10; v++) {
            due(1, "part(" + v + ")", x.part(v), MatchingStructure.FREE);
        }
        due(1, "size()", x.size(), 0);
        due(1, "missed()", x.missed(), 10);
        due(1, "edges", Graphs.edgesTakenAway(x), 0);
        for (int v = 0; v < 10; v++) {
            due(1, "turn(" + v + ", true)", x.turn(v, true), 1);
        }
        MatchingStructure y = Graphs.of(0, 1);
        due(1, "another object's edge", x.edge(0, 1, false), 0);
        due(1, "its own edge", y.edge(0, 1, false), 1);
    }

    private static void edge() {
        MatchingStructure x = new MatchingStructure();
        due(2, "first set", x.edge(3, 8, true), 0);
        due(2, "set again", x.edge(3, 8, true), 1);
        due(2, "set from the other end", x.edge(8, 3, true), 1);
        due(2, "size with it", x.size(), 1);
        due(2, "taken from the other end", x.edge(8, 3, false), 1);
        due(2, "taken again", x.edge(3, 8, false), 0);
        due(2, "size without it", x.size(), 0);
        due(2, "set between the outermost", x.edge(9, 0, true), 0);
        x.turn(9, false);
        due(2, "there with an end off", x.edge(0, 9, true), 1);
        due(2, "set with an end off", x.edge(9, 1, true), 0);
        due(2, "stays off", x.part(9), MatchingStructure.OFF);
        x.turn(9, true);
        due(2, "set while an end was off", x.inSome(1, 9), true);
        edgeRefused();
    }

    private static void edgeRefused() {
        MatchingStructure x = Graphs.of(0, 1);
        for (int there = 0; there < 2; there++) {
            for (int bad : Graphs.NO_VERTEX) {
                due(2, "edge(0, " + bad + ")", x.edge(0, bad, there == 1), -1);
                due(2, "edge(" + bad + ", 0)", x.edge(bad, 0, there == 1), -1);
                due(2, "edge(" + bad + ", " + bad + ")", x.edge(bad, bad, there == 1), -1);
            }
            for (int v = 0; v < 10; v++) {
                due(2, "edge(" + v + ", " + v + ")", x.edge(v, v, there == 1), -1);
            }
        }
        due(2, "vertices on after refusals", Graphs.onSet(x), 1023);
        due(2, "edges after refusals", Graphs.edgesTakenAway(x), 1);
    }

    private static void turn() {
        MatchingStructure x = Graphs.of(0, 1, 1, 2);
        due(3, "off", x.turn(1, false), 1);
        due(3, "off again", x.turn(1, false), 0);
        due(3, "size with it off", x.size(), 0);
        due(3, "on", x.turn(1, true), 0);
        due(3, "on again", x.turn(1, true), 1);
        due(3, "size with it on", x.size(), 1);
        due(3, "edge stayed", x.edge(0, 1, true), 1);
        due(3, "other edge stayed", x.edge(2, 1, true), 1);
        x.turn(0, false);
        x.turn(9, false);
        due(3, "on are", Graphs.onSet(x), 1023 - Graphs.set(0, 9));
        for (int bad : Graphs.NO_VERTEX) {
            due(3, "turn(" + bad + ", false)", x.turn(bad, false), -1);
            due(3, "turn(" + bad + ", true)", x.turn(bad, true), -1);
        }
        due(3, "on after refusals", Graphs.onSet(x), 1023 - Graphs.set(0, 9));
        due(3, "edges after refusals", Graphs.edgesTakenAway(x), 2);
    }

    private static void circle() {
        MatchingStructure x = new MatchingStructure();
        due(4, "circle(3, 5)", x.circle(3, 5), 3);
        due(4, "circle(3, 5) again", x.circle(3, 5), 0);
        due(4, "circle(2, 5) sharing two", x.circle(2, 5), 2);
        due(4, "circle(0, 9) sharing three", x.circle(0, 9), 7);
        due(4, "size", x.size(), 5);
        due(4, "edge 0-9", x.edge(0, 9, false), 1);
        due(4, "edge 8-9", x.edge(8, 9, false), 1);
        due(4, "edge 2-5", x.edge(2, 5, false), 1);
        due(4, "edge 3-5", x.edge(3, 5, false), 1);
        due(4, "no edge 2-4", x.edge(2, 4, false), 0);
        due(4, "edges left", Graphs.edgesTakenAway(x), 8);
        x.turn(1, false);
        x.edge(0, 1, true);
        due(4, "circle over one that is off", x.circle(0, 2), 2);
        due(4, "it stays off", x.part(1), MatchingStructure.OFF);
        circleRefused();
    }

    private static void circleRefused() {
        MatchingStructure x = Graphs.of(0, 1);
        for (int bad : Graphs.NO_VERTEX) {
            due(4, "circle(" + bad + ", 9)", x.circle(bad, 9), -1);
            due(4, "circle(0, " + bad + ")", x.circle(0, bad), -1);
        }
        due(4, "circle(min, max)", x.circle(Integer.MIN_VALUE, Integer.MAX_VALUE), -1);
        due(4, "circle(max, min)", x.circle(Integer.MAX_VALUE, Integer.MIN_VALUE), -1);
        for (int a = 0; a < 10; a++) {
            for (int b = 0; b < 10 && b < a + 2; b++) {
                due(4, "circle(" + a + ", " + b + ")", x.circle(a, b), -1);
            }
        }
        due(4, "vertices on after refusals", Graphs.onSet(x), 1023);
        due(4, "edges after refusals", Graphs.edgesTakenAway(x), 1);
    }

    private static void clear() {
        MatchingStructure x = Graphs.of(0, 1, 8, 9);
        x.circle(2, 7);
        x.turn(0, false);
        x.turn(9, false);
        x.clear();
        due(5, "size()", x.size(), 0);
        due(5, "missed()", x.missed(), 10);
        due(5, "turn(0)", x.turn(0, true), 1);
        due(5, "turn(9)", x.turn(9, true), 1);
        due(5, "edges", Graphs.edgesTakenAway(x), 0);
    }

    private static void sizeAndMissed() {
        MatchingStructure x = Graphs.of(1, 2, 0, 1, 2, 3);
        due(6, "path of four", x.size(), 2);
        due(7, "path of four", x.missed(), 6);
        x.turn(0, false);
        due(6, "path of three", x.size(), 1);
        due(7, "path of three", x.missed(), 7);
        MatchingStructure star = Graphs.of(9, 0, 9, 1, 9, 2, 9, 3);
        due(6, "star", star.size(), 1);
        due(7, "star", star.missed(), 8);
        MatchingStructure triangles = new MatchingStructure();
        triangles.circle(0, 2);
        triangles.circle(3, 5);
        due(6, "two triangles", triangles.size(), 2);
        due(7, "two triangles", triangles.missed(), 6);
        triangles.edge(2, 3, true);
        due(6, "two joined triangles", triangles.size(), 3);
        due(7, "two joined triangles", triangles.missed(), 4);
        MatchingStructure none = new MatchingStructure();
        none.circle(0, 9);
        due(6, "circle of ten", none.size(), 5);
        due(7, "circle of ten", none.missed(), 0);
        for (int v = 0; v < 10; v++) {
            none.turn(v, false);
        }
        due(6, "all off", none.size(), 0);
        due(7, "all off", none.missed(), 0);
    }

    private static void parts() {
        MatchingStructure x = Graphs.mixed();
        int[] want = {2, 1, 1, 1, 1, 1, 3, 3, 0, 1};
        for (int v = 0; v < 10; v++) {
            due(8, "part(" + v + ")", x.part(v), want[v]);
        }
        for (int bad : Graphs.NO_VERTEX) {
            due(8, "part(" + bad + ")", x.part(bad), -1);
        }
        due(9, "members(FREE)", x.members(1), Graphs.set(1, 2, 3, 4, 5, 9));
        due(9, "members(BORDER)", x.members(2), Graphs.set(0));
        due(9, "members(CORE)", x.members(3), Graphs.set(6, 7));
        due(9, "members(OFF)", x.members(0), 0);
        int[] others = {-1, -2, 4, 5, 32, 33, 34, 35, Integer.MIN_VALUE, Integer.MAX_VALUE};
        for (int other : others) {
            due(9, "members(" + other + ")", x.members(other), 0);
        }
        due(10, "groups()", x.groups(), 4);
    }

    private static void groups() {
        MatchingStructure x = new MatchingStructure();
        due(10, "no edges", x.groups(), 10);
        x.circle(0, 8);
        due(10, "circle of nine and one alone", x.groups(), 2);
        x.turn(9, false);
        due(10, "circle of nine", x.groups(), 1);
        x.turn(0, false);
        due(10, "path of eight", x.groups(), 0);
        // The free vertices 0 and 2 hang together only through 1, which is not free.
        due(10, "path of three and seven alone", Graphs.of(0, 1, 1, 2).groups(), 9);
        for (int v = 0; v < 10; v++) {
            x.turn(v, false);
        }
        due(10, "all off", x.groups(), 0);
        // One group whose vertices hang together along a way that goes up and down.
        MatchingStructure y = Graphs.of(8, 0, 0, 7, 7, 1, 1, 6, 6, 2, 2, 5, 5, 3, 3, 4, 4, 8);
        due(10, "circle of nine in another order", y.groups(), 2);
    }

    private static void partner() {
        MatchingStructure x = new MatchingStructure();
        due(11, "no edges", x.partner(4), -2);
        x.circle(0, 3);
        due(11, "smaller partner first, 0", x.partner(0), 1);
        due(11, "smaller partner first, 1", x.partner(1), 0);
        due(11, "smaller partner first, 2", x.partner(2), 3);
        due(11, "smaller partner first, 3", x.partner(3), 2);
        x.turn(1, false);
        due(11, "off", x.partner(1), -2);
        due(11, "its neighbour", x.partner(0), 3);
        due(11, "left over", x.partner(2), -2);
        // 0 would like 1, but then the matching is not greatest.
        MatchingStructure path = Graphs.of(1, 0, 0, 2, 1, 3);
        due(11, "path, 0", path.partner(0), 2);
        due(11, "path, 1", path.partner(1), 3);
        due(11, "path, 3", path.partner(3), 1);
        // No partner comes after all partners, so 0 is the one that has 9.
        MatchingStructure star = Graphs.of(9, 0, 9, 1, 9, 2);
        due(11, "star, 0", star.partner(0), 9);
        due(11, "star, 1", star.partner(1), -2);
        due(11, "star, 9", star.partner(9), 0);
        for (int bad : Graphs.NO_VERTEX) {
            due(11, "partner(" + bad + ")", star.partner(bad), -1);
        }
    }

    private static void inSomeAndInAll() {
        MatchingStructure x = Graphs.of(0, 1, 1, 2, 2, 3, 4, 5, 5, 6, 7, 8);
        due(12, "outer edge of a path", x.inSome(0, 1), true);
        due(13, "outer edge of a path", x.inAll(1, 0), true);
        due(12, "inner edge of a path", x.inSome(1, 2), false);
        due(13, "inner edge of a path", x.inAll(1, 2), false);
        due(12, "one of two", x.inSome(5, 4), true);
        due(13, "one of two, from the middle", x.inAll(5, 4), false);
        due(13, "one of two, from the end", x.inAll(4, 5), false);
        due(12, "no edge", x.inSome(0, 9), false);
        due(13, "no edge", x.inAll(0, 9), false);
        due(13, "edge by itself", x.inAll(8, 7), true);
        x.turn(8, false);
        due(12, "one end off", x.inSome(7, 8), false);
        due(13, "one end off", x.inAll(7, 8), false);
        due(12, "other order, one end off", x.inSome(8, 7), false);
        due(13, "other order, one end off", x.inAll(8, 7), false);
        MatchingStructure square = new MatchingStructure();
        square.circle(0, 3);
        due(12, "square", square.inSome(3, 0), true);
        due(13, "square", square.inAll(3, 0), false);
        pairsRefused(x);
    }

    private static void pairsRefused(MatchingStructure x) {
        for (int bad : Graphs.NO_VERTEX) {
            due(12, "inSome(0, " + bad + ")", x.inSome(0, bad), false);
            due(12, "inSome(" + bad + ", 0)", x.inSome(bad, 0), false);
            due(13, "inAll(0, " + bad + ")", x.inAll(0, bad), false);
            due(13, "inAll(" + bad + ", 0)", x.inAll(bad, 0), false);
            due(14, "helps(9, " + bad + ")", x.helps(9, bad), false);
            due(14, "helps(" + bad + ", 9)", x.helps(bad, 9), false);
            due(14, "helps(" + bad + ", " + bad + ")", x.helps(bad, bad), false);
        }
        for (int v = 0; v < 10; v++) {
            due(12, "inSome(" + v + ", " + v + ")", x.inSome(v, v), false);
            due(13, "inAll(" + v + ", " + v + ")", x.inAll(v, v), false);
            due(14, "helps(" + v + ", " + v + ")", x.helps(v, v), false);
        }
    }

    private static void helps() {
        MatchingStructure x = Graphs.of(0, 1, 1, 2, 4, 5);
        due(14, "two alone", x.helps(8, 9), true);
        due(14, "the ends of a path of three", x.helps(0, 2), false);
        due(14, "an end and one alone", x.helps(2, 9), true);
        due(14, "the middle and one alone", x.helps(1, 9), false);
        due(14, "a core vertex and one alone", x.helps(4, 9), false);
        due(14, "an edge that is there", x.helps(0, 1), false);
        x.turn(9, false);
        due(14, "one end off", x.helps(8, 9), false);
        due(14, "other end off", x.helps(9, 8), false);
        x.turn(8, false);
        due(14, "both off", x.helps(9, 8), false);
        due(14, "no edge came of asking", x.edge(0, 2, false), 0);
        MatchingStructure triangle = new MatchingStructure();
        triangle.circle(0, 2);
        due(14, "a triangle and one alone", triangle.helps(2, 3), true);
        // Both are free, but no greatest matching misses both.
        MatchingStructure five = new MatchingStructure();
        five.circle(0, 4);
        due(14, "across a circle of five", five.helps(0, 2), false);
    }

    private static void needed() {
        MatchingStructure x = new MatchingStructure();
        due(15, "no edges", x.needed(), 0);
        x.circle(0, 4);
        due(15, "circle of five", x.needed(), 0);
        x.turn(0, false);
        due(15, "path of four", x.needed(), 4);
        due(15, "asking switched none", Graphs.onSet(x), 1022);
        due(15, "star", Graphs.of(0, 1, 0, 2, 0, 3).needed(), 1);
        due(15, "border and core", Graphs.mixed().needed(), 3);
        for (int v = 0; v < 10; v++) {
            x.turn(v, false);
        }
        due(15, "all off", x.needed(), 0);
    }

    public static void main(String[] args) {
        newObject();
        edge();
        turn();
        circle();
        clear();
        sizeAndMissed();
        parts();
        groups();
        partner();
        inSomeAndInAll();
        helps();
        needed();
        Check.end();
    }
}
