/** The examples of README.md answer what they say there. */
public final class ReadmeTest {
    private static final Due due = new Due();

    public static void main(String[] args) {
        TurnCounts x = new TurnCounts();
        due.is("points(6)", x.points(6), 4);
        due.is("beside(6, 1, 0)", x.beside(6, 1, 0), 6);
        due.is("sorts(3)", x.sorts(3), 2);
        due.is("patterns(-1)", x.patterns(-1), 130);
        due.is("patterns(4)", x.patterns(4), 16);
        due.is("kinds(0)", x.kinds(0), 76);
        due.is("pattern(1, 0)", x.pattern(1, 0), 1);
        due.is("pattern(1, 1)", x.pattern(1, 1), 6);
        due.is("of(243, 0)", x.of(243, 0), 1);
        due.is("by(243, 0)", x.by(243, 0), 5);
        States.say(x, "543210");
        due.is("turn(1)", x.turn(1), 222);
        due.is("join()", x.join(), 12);
        due.is("patterns(-1) behind join()", x.patterns(-1), 92);
        due.end();
    }
}
