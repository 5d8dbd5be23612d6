/** The calls that README.md shows, in its order, with the answers it tells. */
public final class ReadmeTest {
    public static void main(String[] args) {
        Check.sentence("README.md", "Use");
        MatchingStructure x = new MatchingStructure();
        Check.due("circle(0, 4)", x.circle(0, 4), 5);
        Check.due("edge(4, 5, true)", x.edge(4, 5, true), 0);
        Check.due("turn(9, false)", x.turn(9, false), 1);
        Check.due("size()", x.size(), 3);
        Check.due("missed()", x.missed(), 3);
        Check.due("part(6)", x.part(6), MatchingStructure.FREE);
        Check.due("part(9)", x.part(9), MatchingStructure.OFF);
        Check.due("members(CORE)", x.members(MatchingStructure.CORE), 0b111111);
        Check.due("groups()", x.groups(), 3);
        Check.due("partner(4)", x.partner(4), 5);
        Check.due("partner(6)", x.partner(6), MatchingStructure.NONE);
        Check.due("inSome(1, 2)", x.inSome(1, 2), false);
        Check.due("inAll(4, 5)", x.inAll(4, 5), true);
        Check.due("helps(6, 7)", x.helps(6, 7), true);
        Check.due("needed()", x.needed(), 6);
        Check.due("edge(3, 3, true)", x.edge(3, 3, true), MatchingStructure.BAD_VERTEX);
        x.clear();
        Check.due("as new", Graphs.everything(x), Graphs.everything(new MatchingStructure()));
        Check.end();
    }
}
