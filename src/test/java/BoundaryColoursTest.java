import java.util.List;
import java.util.function.Supplier;

/** Each sentence of promises 11 to 17 that names a boundary case, and of the terms that they use. */
public final class BoundaryColoursTest {
    private static final int OUTSIDE = TurnCounts.OUTSIDE, UNKNOWN = TurnCounts.UNKNOWN, NONE = TurnCounts.NONE;
    private static final int STILL = 0, ROUND = 1, FLIPPED = 2, EVEN = 3, ALL = 4;
    private static final List<Supplier<TurnCounts>> STATES =
        List.of(States::bare, States::busy, States::full, States::told, States::largest, States::smallest);
    private static final Due due = new Due();
    private static final Edges edges = new Edges(due);

    public static void main(String[] args) {
        sortsAreOneToFour();
        sortsLeaveWeightsAndTheGroup();
        oneColour();

        weightTakesFourColours();
        weightIsNoneToNine();
        weightOfAColourNotInUse();

        patternsTakeMinusOneToSixtyThree();
        patternsOfTheLeastAndTheGreatestWeight();
        patternsOfAWeightThatNoneHas();
        patternsFewestAndMost();

        patternFirstAndLast();
        patternThatThereIsNot();
        patternTakesFiveQuestions();
        patternFewestAndMostColourings();
        patternLeastAndGreatestWeight();
        patternThatIsItsOwnTwin();
        patternOfOneColourAndOfFour();

        ofTakesNumbersOfColourings();
        ofTakesFourQuestions();
        ofFewestAndMostTurns();
        ofMirroredChangesTheEnds();

        kindsTakeFourQuestions();
        kindsHandedNoneAndMost();
        kindsOfAllColoursAtTheEdge();
        kindsOfOneColouring();
        kindsMostColourings();

        byTakesNumbersOfColourings();
        byTakesPointsOfMany();
        byOfLeastItself();
        byComesFromTheLastToTheFirst();
        byTheFirstSuch();
        due.end();
    }

    /** POINTS of which all are turned by one KIND. */
    private static TurnCounts turned(int many, int sorts, int kind) {
        TurnCounts x = States.made(many, sorts);
        x.beside(many, kind, STILL);
        return x;
    }

    // ---- 11 sorts

    private static void sortsAreOneToFour() {
        for (Supplier<TurnCounts> state : STATES) {
            edges.from(1, 4, OUTSIDE, "11 sorts", state, TurnCounts::sorts);
        }
        TurnCounts x = new TurnCounts();
        int was = 2;
        for (int v : new int[] {1, 4, 4, 1, 1, 3, 2}) {
            due.is("11 sorts(" + v + ")", x.sorts(v), was);
            due.is("11 SORTS " + v, x.count(2), v);
            due.is("11 the last NUMBER of SORTS " + v, x.of(States.power(v, 4) - 1, 1), States.power(v, 4) - 1);
            due.is("11 behind the last NUMBER of SORTS " + v, x.of(States.power(v, 4), 1), OUTSIDE);
            was = v;
        }
    }

    private static void sortsLeaveWeightsAndTheGroup() {
        TurnCounts x = States.full();
        x.points(3);
        x.beside(3, FLIPPED, STILL);
        x.sorts(1);
        x.sorts(4);
        int[] weights = {9, 7, 2, 6};
        for (int colour = 0; colour < 4; colour++) {
            due.is("11 WEIGHT stays " + colour, x.count(10 + colour), weights[colour]);
        }
        due.is("11 MANY stays", x.count(0), 3);
        due.is("11 TURNS stay", x.count(1), 6);
        due.is("11 signs stay", x.count(3), 7);
        due.is("11 IMAGES stay", x.count(4), 3);
    }

    private static void oneColour() {
        for (int many = 1; many <= 7; many++) {
            TurnCounts x = turned(many, 1, ROUND);
            due.is("11 one COLOURING of one COLOUR", x.patterns(-1), 1);
            due.is("11 its NUMBER", x.pattern(0, 0), 0);
            due.is("11 there is no other", x.pattern(1, 0), NONE);
            due.is("11 NUMBER 1 of one COLOUR", x.of(1, 0), OUTSIDE);
            due.is("11 all TURNS make it of itself", x.of(0, 2), many);
            due.is("11 MIRRORED of one COLOUR", x.of(0, 3), 0);
            due.is("11 the first TURN for it", x.by(0, many - 1), many - 1);
        }
    }

    // ---- 12 weight

    private static void weightTakesFourColours() {
        for (Supplier<TurnCounts> state : STATES) {
            for (int v : new int[] {0, 5, 9}) {
                edges.from(0, 3, UNKNOWN, "12 weight, " + v, state, (x, colour) -> x.weight(colour, v));
            }
            for (int v : new int[] {-1, 10, Integer.MIN_VALUE, Integer.MAX_VALUE}) {
                edges.refused(UNKNOWN, "12 weight(-1, " + v + ")", state, x -> x.weight(-1, v));
                edges.refused(UNKNOWN, "12 weight(4, " + v + ")", state, x -> x.weight(4, v));
            }
        }
    }

    private static void weightIsNoneToNine() {
        for (Supplier<TurnCounts> state : STATES) {
            for (int colour = 0; colour < 4; colour++) {
                int c = colour;
                edges.from(0, 9, OUTSIDE, "12 weight " + colour, state, (x, v) -> x.weight(c, v));
            }
        }
        TurnCounts x = new TurnCounts();
        for (int colour = 0; colour < 4; colour++) {
            int was = colour;
            for (int v : new int[] {9, 0, 0, 9, 9, 5}) {
                due.is("12 weight(" + colour + ", " + v + ")", x.weight(colour, v), was);
                due.is("12 WEIGHT of " + colour, x.count(10 + colour), v);
                was = v;
            }
        }
    }

    private static void weightOfAColourNotInUse() {
        TurnCounts x = States.made(1, 1);
        due.is("12 weight(3, 9) of one COLOUR", x.weight(3, 9), 3);
        due.is("12 weight(1, 8) of one COLOUR", x.weight(1, 8), 1);
        due.is("12 PATTERNS of WEIGHT 0", x.patterns(0), 1);
        due.is("12 PATTERNS of WEIGHT 9", x.patterns(9), 0);
        x.sorts(4);
        due.is("12 PATTERNS of WEIGHT 9 of four COLOURS", x.patterns(9), 1);
        due.is("12 WEIGHT of the last one", x.pattern(3, 2), 9);
        due.is("12 WEIGHT of the second one", x.pattern(1, 2), 8);
    }

    // ---- 13 patterns

    private static void patternsTakeMinusOneToSixtyThree() {
        for (Supplier<TurnCounts> state : STATES) {
            edges.from(-1, 63, OUTSIDE, "13 patterns", state, TurnCounts::patterns);
            due.is("13 patterns(0) is taken", state.get().patterns(0) >= 0 ? 1 : 0, 1);
        }
    }

    private static void patternsOfTheLeastAndTheGreatestWeight() {
        for (int many = 1; many <= 7; many++) {
            TurnCounts x = turned(many, 4, ALL);
            int all = x.patterns(-1);
            due.is("13 WEIGHT 0 of " + many, x.patterns(0), 1);
            due.is("13 the greatest WEIGHT of " + many, x.patterns(3 * many), 1);
            due.is("13 beyond the greatest WEIGHT of " + many, x.patterns(3 * many + 1), 0);
            for (int colour = 0; colour < 4; colour++) {
                x.weight(colour, 0);
            }
            due.is("13 all of WEIGHT 0", x.patterns(0), all);
            due.is("13 none of WEIGHT 1", x.patterns(1), 0);
            for (int colour = 0; colour < 4; colour++) {
                x.weight(colour, 9);
            }
            due.is("13 all of WEIGHT 9 each", x.patterns(9 * many), all);
            due.is("13 none of one less", x.patterns(9 * many - 1), 0);
            due.is("13 none of WEIGHT 0", x.patterns(0), 0);
        }
        TurnCounts x = States.made(7, 2);
        x.weight(1, 9);
        due.is("13 patterns(63), the greatest there is", x.patterns(63), 1);
        due.is("13 patterns(54)", x.patterns(54), 7);
        due.is("13 patterns(62)", x.patterns(62), 0);
    }

    private static void patternsOfAWeightThatNoneHas() {
        TurnCounts x = States.busy();
        edges.tells(0, "13 patterns(63) of three POINTS", States::busy, y -> y.patterns(63));
        edges.tells(0, "13 patterns(0) where all weigh more", States::busy, y -> y.patterns(0));
        int sum = 0;
        for (int weight = 0; weight <= 63; weight++) {
            sum += x.patterns(weight);
        }
        due.is("13 PATTERNS of all WEIGHTS", sum, x.patterns(-1));
    }

    private static void patternsFewestAndMost() {
        due.is("13 one PATTERN", States.smallest().patterns(-1), 1);
        for (int many = 1; many <= 7; many++) {
            for (int sorts = 1; sorts <= 4; sorts++) {
                TurnCounts x = States.made(many, sorts);
                due.is("13 as many as COLOURINGS", x.patterns(-1), States.power(sorts, many));
                x.beside(many, ALL, STILL);
                due.is("13 as many as choices", x.patterns(-1), choices(many, sorts));
            }
        }
        due.is("13 the most PATTERNS", States.made(7, 4).patterns(-1), 16384);
    }

    /** How many ways there are to share POINTS among COLOURS. */
    private static int choices(int points, int colours) {
        if (colours == 1) {
            return 1;
        }
        int sum = 0;
        for (int first = 0; first <= points; first++) {
            sum += choices(points - first, colours - 1);
        }
        return sum;
    }

    // ---- 14 pattern

    private static void patternFirstAndLast() {
        for (int many = 1; many <= 7; many++) {
            for (int sorts = 1; sorts <= 4; sorts++) {
                for (int kind = STILL; kind <= ALL; kind++) {
                    TurnCounts x = turned(many, sorts, kind);
                    int last = x.patterns(-1) - 1;
                    String where = " of " + many + " POINTS, " + sorts + " COLOURS, KIND " + kind;
                    due.is("14 the first LEAST" + where, x.pattern(0, 0), 0);
                    due.is("14 the first has one" + where, x.pattern(0, 1), 1);
                    due.is("14 the last LEAST" + where, x.pattern(last, 0), States.power(sorts, many) - 1);
                    due.is("14 the last has one" + where, x.pattern(last, 1), 1);
                    for (int what = 0; what <= 4; what++) {
                        due.is("14 ahead of the first" + where, x.pattern(-1, what), NONE);
                        due.is("14 behind the last" + where, x.pattern(last + 1, what), NONE);
                    }
                }
            }
        }
    }

    private static void patternThatThereIsNot() {
        for (Supplier<TurnCounts> state : STATES) {
            int amount = state.get().patterns(-1);
            for (int i : new int[] {-1, -2, Integer.MIN_VALUE, amount, amount + 1, 16384, Integer.MAX_VALUE}) {
                for (int what : new int[] {0, 1, 2, 3, 4}) {
                    due.is("14 pattern(" + i + ", " + what + ")", state.get().pattern(i, what), NONE);
                }
                edges.tells(NONE, "14 pattern(" + i + ", 0)", state, x -> x.pattern(i, 0));
                edges.refused(OUTSIDE, "14 pattern(" + i + ", 5)", state, x -> x.pattern(i, 5));
                edges.refused(OUTSIDE, "14 pattern(" + i + ", -1)", state, x -> x.pattern(i, -1));
            }
        }
        TurnCounts x = States.made(7, 4);
        due.is("14 the last of the most", x.pattern(16383, 0), 16383);
        due.is("14 behind the last of the most", x.pattern(16384, 0), NONE);
        x.sorts(1);
        due.is("14 what was there ahead of sorts(1)", x.pattern(1, 0), NONE);
    }

    private static void patternTakesFiveQuestions() {
        for (Supplier<TurnCounts> state : STATES) {
            int last = state.get().patterns(-1) - 1;
            for (int i : new int[] {0, last}) {
                edges.from(0, 4, OUTSIDE, "14 pattern " + i, state, (x, what) -> x.pattern(i, what));
            }
        }
    }

    private static void patternFewestAndMostColourings() {
        TurnCounts x = States.made(7, 4);
        due.is("14 one COLOURING of STILL", x.pattern(27, 1), 1);
        x.beside(7, ALL, STILL);
        int most = 0;
        int sum = 0;
        for (int i = 0; i < 120; i++) {
            most = Math.max(most, x.pattern(i, 1));
            sum += x.pattern(i, 1);
        }
        due.is("14 the most COLOURINGS", most, 630);
        due.is("14 all COLOURINGS", sum, 16384);
    }

    private static void patternLeastAndGreatestWeight() {
        TurnCounts x = turned(7, 4, ALL);
        x.weight(3, 9);
        due.is("14 WEIGHT 0", x.pattern(0, 2), 0);
        due.is("14 WEIGHT 63", x.pattern(119, 2), 63);
        x.weight(3, 0);
        due.is("14 WEIGHT 0 then", x.pattern(119, 2), 0);
        x.weight(0, 9);
        due.is("14 WEIGHT 63 then", x.pattern(0, 2), 63);
    }

    private static void patternThatIsItsOwnTwin() {
        for (int many = 1; many <= 7; many++) {
            TurnCounts flipped = turned(many, 2, FLIPPED);
            int amount = flipped.patterns(-1);
            for (int i = 0; i < amount; i++) {
                due.is("14 none is HANDED where all is FLIPPED", flipped.pattern(i, 3), i);
            }
        }
        TurnCounts x = States.made(1, 4);
        for (int i = 0; i < 4; i++) {
            due.is("14 TWIN of one POINT", x.pattern(i, 3), i);
        }
        x = States.made(3, 2);
        int[] twins = {0, 4, 2, 6, 1, 5, 3, 7};
        for (int i = 0; i < 8; i++) {
            due.is("14 TWIN of three that stay", x.pattern(i, 3), twins[i]);
        }
        x = turned(4, 4, EVEN);
        // the COLOURING 0 1 2 3 and its MIRRORED 3 2 1 0 come of one another by two changes
        due.is("14 TWIN of all COLOURS of EVEN", x.pattern(x.of(27, 0), 3), x.of(27, 0));
        x = turned(3, 3, EVEN);
        due.is("14 TWIN of 0 1 2 of EVEN", x.pattern(4, 3), 5);
        due.is("14 TWIN of 0 2 1 of EVEN", x.pattern(5, 3), 4);
    }

    private static void patternOfOneColourAndOfFour() {
        TurnCounts x = States.made(4, 4);
        due.is("14 one COLOUR", x.pattern(0, 4), 1);
        due.is("14 one COLOUR, the last", x.pattern(255, 4), 1);
        due.is("14 all four COLOURS", x.pattern(27, 4), 4);
        x.points(3);
        due.is("14 no more COLOURS than POINTS", x.pattern(27, 4), 3);
        x.points(1);
        for (int i = 0; i < 4; i++) {
            due.is("14 COLOURS of one POINT", x.pattern(i, 4), 1);
        }
        x = States.made(7, 1);
        due.is("14 COLOURS of one COLOUR", x.pattern(0, 4), 1);
    }

    // ---- 15 of

    private static void ofTakesNumbersOfColourings() {
        for (int many = 1; many <= 7; many++) {
            for (int sorts = 1; sorts <= 4; sorts++) {
                int n = many;
                int s = sorts;
                for (int what = 0; what <= 3; what++) {
                    int asked = what;
                    edges.from(0, States.power(sorts, many) - 1, OUTSIDE, "15 of, " + many + " POINTS, " + sorts + " COLOURS",
                        () -> turned(n, s, ROUND), (x, number) -> x.of(number, asked));
                }
                TurnCounts x = turned(many, sorts, ALL);
                int last = States.power(sorts, many) - 1;
                due.is("15 PATTERN of the first", x.of(0, 0), 0);
                due.is("15 PATTERN of the last", x.of(last, 0), x.patterns(-1) - 1);
                due.is("15 LEAST of the last", x.of(last, 1), last);
                due.is("15 MIRRORED of the last", x.of(last, 3), last);
            }
        }
        TurnCounts x = States.made(7, 4);
        due.is("15 the greatest NUMBER", x.of(16383, 1), 16383);
        x.points(6);
        due.is("15 the greatest NUMBER of fewer POINTS", x.of(16383, 1), OUTSIDE);
        due.is("15 NUMBER 4096 of six POINTS", x.of(4096, 1), OUTSIDE);
        due.is("15 NUMBER 4095 of six POINTS", x.of(4095, 1), 4095);
    }

    private static void ofTakesFourQuestions() {
        for (Supplier<TurnCounts> state : STATES) {
            TurnCounts x = state.get();
            int last = States.power(x.count(2), x.count(0)) - 1;
            for (int number : new int[] {0, last}) {
                edges.from(0, 3, OUTSIDE, "15 of " + number, state, (y, what) -> y.of(number, what));
            }
            edges.refused(OUTSIDE, "15 of, both wrong", state, y -> y.of(-1, 4));
            edges.refused(OUTSIDE, "15 of, both wrong", state, y -> y.of(last + 1, -1));
        }
    }

    private static void ofFewestAndMostTurns() {
        TurnCounts x = turned(7, 4, ALL);
        due.is("15 all TURNS make one COLOUR of itself", x.of(0, 2), 5040);
        due.is("15 all TURNS make the last of itself", x.of(16383, 2), 5040);
        // 0 0 1 1 2 2 3: two, two and two that may be changed
        due.is("15 the fewest TURNS", x.of(((1 * 4 + 1) * 4 + 2) * 16 + 2 * 4 + 3, 2), 8);
        x.beside(7, ROUND, STILL);
        due.is("15 one TURN", x.of(1, 2), 1);
        due.is("15 all seven", x.of(0, 2), 7);
        x.points(7);
        due.is("15 one TURN of STILL", x.of(0, 2), 1);
    }

    private static void ofMirroredChangesTheEnds() {
        for (int many = 1; many <= 7; many++) {
            for (int sorts = 2; sorts <= 4; sorts++) {
                TurnCounts x = States.made(many, sorts);
                for (int point = 0; point < many; point++) {
                    int there = (sorts - 1) * States.power(sorts, many - 1 - point);
                    int mirrored = (sorts - 1) * States.power(sorts, point);
                    due.is("15 MIRRORED of POINT " + point + " of " + many, x.of(there, 3), mirrored);
                }
            }
        }
    }

    // ---- 16 kinds

    private static void kindsTakeFourQuestions() {
        for (Supplier<TurnCounts> state : STATES) {
            edges.from(0, 3, OUTSIDE, "16 kinds", state, TurnCounts::kinds);
        }
    }

    private static void kindsHandedNoneAndMost() {
        for (int sorts = 1; sorts <= 4; sorts++) {
            due.is("16 HANDED of one POINT", States.made(1, sorts).kinds(0), 0);
        }
        for (int many = 1; many <= 7; many++) {
            due.is("16 HANDED of one COLOUR", States.made(many, 1).kinds(0), 0);
            due.is("16 HANDED of FLIPPED", turned(many, 3, FLIPPED).kinds(0), 0);
            due.is("16 HANDED of ALL", turned(many, 4, ALL).kinds(0), 0);
            int sameMirrored = States.power(4, (many + 1) / 2);
            due.is("16 HANDED of STILL", States.made(many, 4).kinds(0), States.power(4, many) - sameMirrored);
        }
        due.is("16 HANDED of three ROUND, two COLOURS", turned(3, 2, ROUND).kinds(0), 0);
        due.is("16 HANDED of three ROUND, three COLOURS", turned(3, 3, ROUND).kinds(0), 2);
    }

    private static void kindsOfAllColoursAtTheEdge() {
        for (int many = 1; many <= 7; many++) {
            for (int sorts = 1; sorts <= 4; sorts++) {
                int want = many < sorts ? 0 : choices(many - sorts, sorts);
                due.is("16 all " + sorts + " COLOURS on " + many, turned(many, sorts, ALL).kinds(1), want);
            }
        }
        due.is("16 as many COLOURS as POINTS, STILL", States.made(4, 4).kinds(1), 24);
        due.is("16 one COLOUR more than POINTS, STILL", States.made(3, 4).kinds(1), 0);
        due.is("16 one COLOUR", States.made(7, 1).kinds(1), 1);
    }

    private static void kindsOfOneColouring() {
        for (int sorts = 1; sorts <= 4; sorts++) {
            for (int many = 1; many <= 7; many++) {
                due.is("16 alone of ROUND", turned(many, sorts, ROUND).kinds(2), sorts);
                due.is("16 alone of STILL", States.made(many, sorts).kinds(2), States.power(sorts, many));
            }
        }
    }

    private static void kindsMostColourings() {
        for (int many = 1; many <= 7; many++) {
            for (int sorts = 1; sorts <= 4; sorts++) {
                due.is("16 most of STILL", States.made(many, sorts).kinds(3), 1);
                due.is("16 most of ROUND", turned(many, sorts, ROUND).kinds(3), sorts == 1 ? 1 : many);
            }
        }
        due.is("16 the most there can be", turned(7, 4, ALL).kinds(3), 630);
        due.is("16 the most of EVEN", turned(7, 4, EVEN).kinds(3), 630);
        due.is("16 the most of two COLOURS", turned(7, 2, ALL).kinds(3), 35);
        due.is("16 the most where all COLOURS differ", turned(4, 4, ALL).kinds(3), 24);
        due.is("16 the most of EVEN where all differ", turned(4, 4, EVEN).kinds(3), 12);
    }

    // ---- 17 by

    private static void byTakesNumbersOfColourings() {
        for (int many = 1; many <= 7; many++) {
            for (int sorts = 1; sorts <= 4; sorts++) {
                int n = many;
                int s = sorts;
                edges.from(0, States.power(sorts, many) - 1, OUTSIDE, "17 by, " + many + " POINTS, " + sorts + " COLOURS",
                    () -> turned(n, s, ROUND), (x, number) -> x.by(number, n - 1));
            }
        }
        for (Supplier<TurnCounts> state : STATES) {
            TurnCounts x = state.get();
            int many = x.count(0);
            int total = States.power(x.count(2), many);
            for (int point : new int[] {-1, many, Integer.MIN_VALUE, Integer.MAX_VALUE}) {
                edges.refused(OUTSIDE, "17 by, both wrong", state, y -> y.by(-1, point));
                edges.refused(OUTSIDE, "17 by, both wrong", state, y -> y.by(total, point));
            }
        }
    }

    private static void byTakesPointsOfMany() {
        for (Supplier<TurnCounts> state : STATES) {
            TurnCounts x = state.get();
            int many = x.count(0);
            int total = States.power(x.count(2), many);
            for (int number : new int[] {0, total - 1}) {
                edges.from(0, many - 1, UNKNOWN, "17 by " + number, state, (y, point) -> y.by(number, point));
            }
        }
        for (int many = 1; many <= 7; many++) {
            int n = many;
            edges.from(0, many - 1, UNKNOWN, "17 by of " + many, () -> turned(n, 2, ROUND), (y, point) -> y.by(0, point));
        }
    }

    /** Of all TURNS the one that brings none elsewhere is the first. */
    private static void byOfLeastItself() {
        for (int kind = STILL; kind <= ALL; kind++) {
            for (int many = 1; many <= 7; many++) {
                TurnCounts x = turned(many, 2, kind);
                int last = (1 << many) - 1;
                for (int point = 0; point < many; point++) {
                    due.is("17 by of the first NUMBER", x.by(0, point), point);
                    due.is("17 by of the last NUMBER", x.by(last, point), point);
                    due.is("17 by of NUMBER 1", x.by(1, point), point);
                }
            }
        }
    }

    /** The COLOUR of POINT 0 alone comes to the last POINT: it goes MANY less 1 places on, or one back. */
    private static void byComesFromTheLastToTheFirst() {
        for (int many = 2; many <= 7; many++) {
            TurnCounts x = turned(many, 2, ROUND);
            for (int point = 0; point < many; point++) {
                int want = point == 0 ? many - 1 : point - 1;
                due.is("17 by of the highest figure of " + many, x.by(1 << many - 1, point), want);
                due.is("17 by of the figure next to the last", x.by(2, point), many == 2 ? want : (point + 1) % many);
            }
        }
    }

    private static void byTheFirstSuch() {
        TurnCounts x = turned(7, 2, ALL);
        // 1 0 0 0 0 0 0 to 0 0 0 0 0 0 1: POINT 0 must go to 6, the others to 0, 1, and so on
        int[] one = {6, 0, 1, 2, 3, 4, 5};
        // 1 1 1 1 1 1 0 to 0 1 1 1 1 1 1: POINT 6 must go to 0, the others to 1, 2, and so on
        int[] six = {1, 2, 3, 4, 5, 6, 0};
        for (int point = 0; point < 7; point++) {
            due.is("17 by(64, " + point + ") of ALL", x.by(64, point), one[point]);
            due.is("17 by(126, " + point + ") of ALL", x.by(126, point), six[point]);
        }
        x = turned(7, 2, FLIPPED);
        // the flip that brings POINT 0 to 6 is 6 5 4 3 2 1 0, behind 6 0 1 2 3 4 5
        for (int point = 0; point < 7; point++) {
            due.is("17 by(64, " + point + ") of FLIPPED", x.by(64, point), one[point]);
        }
        x = turned(3, 2, EVEN);
        int[] even = {2, 0, 1};
        for (int point = 0; point < 3; point++) {
            due.is("17 by(4, " + point + ") of EVEN", x.by(4, point), even[point]);
        }
    }
}
