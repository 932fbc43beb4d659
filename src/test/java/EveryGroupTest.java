/** Every group that `beside` and `blocks` can make, and all that is told of it, held against NaiveTurnCounts. */
public final class EveryGroupTest {
    private static final int KINDS = 5;
    /** Up to so many POINTS each group is tried with each SORTS; of more, with one SORTS, each in its turn. */
    private static final int ALL_SORTS_TO = 5;
    private static final Due due = new Due();

    private final TurnCounts x = new TurnCounts();
    private final NaiveTurnCounts y = new NaiveTurnCounts();
    private final int many;
    private final int sorts;
    private String name;

    private EveryGroupTest(int many, int sorts) {
        this.many = many;
        this.sorts = sorts;
        name = many + " POINTS, " + sorts + " SORTS, ";
        is("points", x.points(many), y.points(many));
        is("sorts", x.sorts(sorts), y.sorts(sorts));
        int[] weights = {2, 0, 9, 5};
        for (int colour = 0; colour < weights.length; colour++) {
            is("weight", x.weight(colour, weights[colour]), y.weight(colour, weights[colour]));
        }
    }

    public static void main(String[] args) {
        for (int many = 1; many <= 7; many++) {
            for (int a = 0; a <= many; a++) {
                for (int one = 0; one < KINDS; one++) {
                    for (int other = 0; other < KINDS; other++) {
                        oneGroup(many, a, one, other);
                    }
                }
            }
        }
        due.end();
    }

    private static void oneGroup(int many, int a, int one, int other) {
        for (int sorts = 1; sorts <= 4; sorts++) {
            if (many > ALL_SORTS_TO && sorts != 1 + (a + one + other) % 4) {
                continue;
            }
            new EveryGroupTest(many, sorts).beside(a, one, other);
            if (a > 0 && many % a == 0) {
                new EveryGroupTest(many, sorts).blocks(a, one, other);
            }
        }
    }

    private void beside(int a, int one, int other) {
        name += "beside(" + a + ", " + one + ", " + other + "): ";
        is("TURNS", x.beside(a, one, other), y.beside(a, one, other));
        told();
    }

    private void blocks(int a, int one, int other) {
        name += "blocks(" + a + ", " + one + ", " + other + "): ";
        is("TURNS", x.blocks(a, one, other), y.blocks(a, one, other));
        told();
    }

    private void told() {
        is("count 1", x.count(1), y.count(1));
        ofGroup();
        ofPatterns();
        ofNumbers();
    }

    private void ofGroup() {
        int types = y.type(-1, 0);
        is("type -1", x.type(-1, 0), types);
        for (int i = 0; i <= types; i++) {
            is("type " + i + " 0", x.type(i, 0), y.type(i, 0));
            is("type " + i + " 1", x.type(i, 1), y.type(i, 1));
        }
        for (int point = 0; point < many; point++) {
            is("orbit " + point + " 0", x.orbit(point, 0), y.orbit(point, 0));
            is("orbit " + point + " 1", x.orbit(point, 1), y.orbit(point, 1));
        }
    }

    private void ofPatterns() {
        for (int what = -1; what <= 63; what++) {
            is("patterns " + what, x.patterns(what), y.patterns(what));
        }
        for (int what = 0; what <= 3; what++) {
            is("kinds " + what, x.kinds(what), y.kinds(what));
        }
        for (int i : Probe.some(y.patterns(-1))) {
            for (int what = 0; what <= 4; what++) {
                is("pattern " + i + " " + what, x.pattern(i, what), y.pattern(i, what));
            }
        }
    }

    private void ofNumbers() {
        for (int number : Probe.some(States.power(sorts, many))) {
            for (int what = 0; what <= 3; what++) {
                is("of " + number + " " + what, x.of(number, what), y.of(number, what));
            }
            for (int point = 0; point < many; point++) {
                is("by " + number + " " + point, x.by(number, point), y.by(number, point));
            }
        }
    }

    private void is(String what, int got, int want) {
        due.is(name + what, got, want);
    }
}
