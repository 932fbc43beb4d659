import java.util.List;

/** Every TURN, and for few POINTS every two of them, told on THE PAD and joined, held against NaiveTurnCounts. */
public final class EveryTurnTest {
    private static final int PAIRS_TO = 4;
    private static final Due due = new Due();

    public static void main(String[] args) {
        for (int many = 1; many <= 7; many++) {
            for (String turn : States.allTurns(many)) {
                alone(many, turn);
            }
        }
        for (int many = 1; many <= PAIRS_TO; many++) {
            for (String first : States.allTurns(many)) {
                for (String second : States.allTurns(many)) {
                    pair(many, first, second);
                }
            }
        }
        due.end();
    }

    private static void alone(int many, String turn) {
        TurnCounts x = States.made(many, 2);
        NaiveTurnCounts y = new NaiveTurnCounts();
        y.points(many);
        States.say(x, turn);
        say(y, turn);
        for (int what = 0; what <= 2; what++) {
            due.is("8 turn(" + what + ") of " + turn, x.turn(what), y.turn(what));
        }
        due.is("5 join() of " + turn + " alone", x.join(), y.turn(2));
    }

    private static void pair(int many, String first, String second) {
        TurnCounts x = States.made(many, 2);
        NaiveTurnCounts y = new NaiveTurnCounts();
        y.points(many);
        for (String turn : List.of(first, second)) {
            States.say(x, turn);
            say(y, turn);
            due.is("5 join() of " + first + ", " + second + ": " + turn, x.join(), y.join());
        }
        for (String turn : States.allTurns(many)) {
            States.tell(x, turn);
            y.wipe();
            say(y, turn);
            due.is("8 turn(0) of " + turn + " behind " + first + ", " + second, x.turn(0), y.turn(0));
        }
    }

    private static void say(NaiveTurnCounts y, String signs) {
        for (int i = 0; i < signs.length(); i++) {
            y.say(signs.charAt(i));
        }
    }
}
