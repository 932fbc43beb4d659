import java.util.List;
import java.util.function.Supplier;

/** Each sentence of promises 1 to 10 that names a boundary case, and of the terms that they use. */
public final class BoundaryGroupsTest {
    private static final int OUTSIDE = TurnCounts.OUTSIDE, UNKNOWN = TurnCounts.UNKNOWN, FAULT = TurnCounts.FAULT;
    private static final int FULL = TurnCounts.FULL, NONE = TurnCounts.NONE, STATE = TurnCounts.STATE;
    private static final int STILL = 0, ROUND = 1, FLIPPED = 2, EVEN = 3, ALL = 4;
    private static final int[] FACTORIALS = {1, 1, 2, 6, 24, 120, 720, 5040};
    private static final List<Supplier<TurnCounts>> STATES =
        List.of(States::bare, States::busy, States::full, States::told, States::largest, States::smallest);
    private static final Due due = new Due();
    private static final Edges edges = new Edges(due);

    public static void main(String[] args) {
        newObjectHasFourPointsThatStay();
        newObjectHasTwoColours();
        newObjectHasAnEmptyPadAndNoImage();

        pointsAreOneToSeven();
        pointsOfEachNumberAreThoseBelowIt();
        pointsMakeTheGroupAsAtFirst();
        pointsLeaveColoursPadAndImages();

        kindsHaveJustTheirTurns();
        kindsOfNoneAndOneThing();
        roundComesFromTheLastToTheFirst();

        besideTakesNoneToMany();
        besideOfNoneAndOfAll();
        besideRefusesKinds();
        besideIsInPlaceOfWhatWas();

        blocksTakeWhatDividesMany();
        blocksOfOneAndOfAll();
        blocksRefuseKinds();
        blocksComeFromTheLastToTheFirst();
        blocksCountPairsOfBlocks();
        blocksAreInPlaceOfWhatWas();

        joinWantsAsManySignsAsPoints();
        joinWantsFiguresOfPoints();
        joinWantsNoTwoToOne();
        joinFaultChangesNothing();
        joinEmptiesThePad();
        joinOfWhatIsThere();
        joinGoesUpToAllTurns();

        saySignsAre33To126();
        saySevenSigns();
        wipeEmptyAndFull();

        turnTakesThreeQuestions();
        turnFaultsAsWithJoin();
        turnLeavesThePad();
        turnThatBringsNoneElsewhere();
        turnDoneMostOften();

        typeFirstAndLast();
        typeMinusOne();
        typeOutside();
        typesFewestAndMost();

        orbitTakesPointsOfMany();
        orbitTakesTwoQuestions();
        orbitLeastAndGreatest();
        due.end();
    }

    // ---- 1 a new object

    private static void newObjectHasFourPointsThatStay() {
        TurnCounts x = new TurnCounts();
        due.is("1 MANY", x.count(0), 4);
        due.is("1 TURNS", x.count(1), 1);
        for (int point = 0; point < 4; point++) {
            due.is("1 POINT " + point + " stays", x.orbit(point, 0), 1);
            due.is("1 one TURN holds POINT " + point, x.orbit(point, 1), 1);
        }
        due.is("1 POINT 4", x.orbit(4, 0), UNKNOWN);
        due.is("1 the TYPE", x.type(0, 0), 1111);
        due.is("1 one TYPE", x.type(-1, 0), 1);
        for (String turn : States.allTurns(4)) {
            due.is("1 has " + turn, has(States::bare, turn), turn.equals("0123") ? 1 : 0);
        }
    }

    private static void newObjectHasTwoColours() {
        TurnCounts x = new TurnCounts();
        due.is("1 SORTS", x.count(2), 2);
        due.is("1 the last NUMBER", x.of(15, 0), 15);
        due.is("1 behind the last NUMBER", x.of(16, 0), OUTSIDE);
        for (int colour = 0; colour < 4; colour++) {
            due.is("1 WEIGHT of " + colour, x.count(10 + colour), colour);
        }
    }

    private static void newObjectHasAnEmptyPadAndNoImage() {
        TurnCounts x = new TurnCounts();
        due.is("1 signs", x.count(3), 0);
        due.is("1 IMAGES", x.count(4), 0);
        due.is("1 turn(0)", x.turn(0), FAULT);
        due.is("1 join()", x.join(), FAULT);
        due.is("1 wipe()", x.wipe(), 0);
        due.is("1 restore(0)", x.restore(0), STATE);
        due.is("1 restore(1)", x.restore(1), STATE);
        due.is("1 the first sign", x.say('0'), 1);
    }

    // ---- 2 points

    private static void pointsAreOneToSeven() {
        for (Supplier<TurnCounts> state : STATES) {
            edges.from(1, 7, OUTSIDE, "2 points", state, TurnCounts::points);
        }
        TurnCounts x = new TurnCounts();
        int was = 4;
        for (int v : new int[] {1, 7, 7, 1, 1, 2, 6, 3, 5, 4}) {
            due.is("2 points(" + v + ")", x.points(v), was);
            due.is("2 MANY " + v, x.count(0), v);
            was = v;
        }
    }

    private static void pointsOfEachNumberAreThoseBelowIt() {
        for (int many = 1; many <= 7; many++) {
            TurnCounts x = States.made(many, 2);
            due.is("2 the first POINT of " + many, x.orbit(0, 0), 1);
            due.is("2 the last POINT of " + many, x.orbit(many - 1, 0), 1);
            due.is("2 behind the last POINT of " + many, x.orbit(many, 0), UNKNOWN);
            due.is("2 by, the last POINT of " + many, x.by(0, many - 1), many - 1);
            due.is("2 by, behind the last POINT of " + many, x.by(0, many), UNKNOWN);
            due.is("2 TYPE of " + many, x.type(0, 0), Integer.parseInt("1".repeat(many)));
            due.is("2 PATTERNS of " + many, x.patterns(-1), 1 << many);
        }
    }

    private static void pointsMakeTheGroupAsAtFirst() {
        for (int many = 1; many <= 7; many++) {
            TurnCounts x = States.largest();
            due.is("2 points(" + many + ")", x.points(many), 7);
            due.is("2 TURNS behind points(" + many + ")", x.count(1), 1);
            due.is("2 TYPES behind points(" + many + ")", x.type(-1, 0), 1);
            due.is("2 PATTERNS behind points(" + many + ")", x.patterns(-1), States.power(4, many));
        }
    }

    private static void pointsLeaveColoursPadAndImages() {
        TurnCounts x = States.full();
        x.weight(3, 9);
        x.points(7);
        due.is("2 SORTS stays", x.count(2), 3);
        int[] weights = {9, 7, 2, 9};
        for (int colour = 0; colour < 4; colour++) {
            due.is("2 WEIGHT stays " + colour, x.count(10 + colour), weights[colour]);
        }
        due.is("2 signs stay", x.count(3), 7);
        due.is("2 THE PAD stays", x.turn(1), 322);
        due.is("2 IMAGES stay", x.count(4), 3);
        x.restore(0);
        due.is("2 the IMAGE stays", x.count(0), 2);
        due.is("2 TURNS of the IMAGE stay", x.count(1), 2);
    }

    // ---- the KINDS

    private static void kindsHaveJustTheirTurns() {
        for (int n = 1; n <= 5; n++) {
            for (int kind = STILL; kind <= ALL; kind++) {
                for (String turn : States.allTurns(n)) {
                    Supplier<TurnCounts> state = besideState(n, n, kind, STILL);
                    due.is("KIND " + kind + " has " + turn, has(state, turn), isOfKind(kind, turn) ? 1 : 0);
                }
                for (String turn : States.allTurns(n)) {
                    kindBehindOthersHas(kind, n, turn);
                }
            }
        }
    }

    /** The same row of things where two POINTS stand ahead of it, which stay, and where one stands behind it. */
    private static void kindBehindOthersHas(int kind, int n, String turn) {
        StringBuilder moved = new StringBuilder("01");
        for (int i = 0; i < n; i++) {
            moved.append(turn.charAt(i) - '0' + 2);
        }
        int want = isOfKind(kind, turn) ? 1 : 0;
        due.is("KIND " + kind + " has " + moved, has(besideState(n + 2, 2, STILL, kind), moved.toString()), want);
        due.is("KIND " + kind + " has " + turn + n, has(besideState(n + 1, n, kind, ALL), turn + n), want);
        due.is("KIND " + kind + " of blocks of one has " + turn, has(blocksState(n, 1, ALL, kind), turn), want);
        due.is("KIND " + kind + " of one block has " + turn, has(blocksState(n, n, kind, ALL), turn), want);
    }

    private static void kindsOfNoneAndOneThing() {
        int[] ofTwo = {1, 2, 2, 1, 2};
        int[] ofThree = {1, 3, 6, 3, 6};
        for (int kind = STILL; kind <= ALL; kind++) {
            due.is("KIND " + kind + " of none", States.made(3, 2).beside(0, kind, STILL), 1);
            due.is("KIND " + kind + " of one", States.made(3, 2).beside(1, kind, STILL), 1);
            due.is("KIND " + kind + " of two", States.made(3, 2).beside(2, kind, STILL), ofTwo[kind]);
            due.is("KIND " + kind + " of three", States.made(3, 2).beside(3, kind, STILL), ofThree[kind]);
        }
    }

    private static void roundComesFromTheLastToTheFirst() {
        for (int n = 1; n <= 7; n++) {
            due.is("ROUND of " + n, States.made(n, 2).beside(n, ROUND, STILL), n);
            for (int k = 0; k < n; k++) {
                StringBuilder on = new StringBuilder();
                StringBuilder flipped = new StringBuilder();
                for (int point = 0; point < n; point++) {
                    on.append((point + k) % n);
                    flipped.append((n - 1 - point + k) % n);
                }
                due.is("ROUND has " + on, has(besideState(n, n, ROUND, STILL), on.toString()), 1);
                due.is("FLIPPED has " + on, has(besideState(n, n, FLIPPED, STILL), on.toString()), 1);
                due.is("FLIPPED has " + flipped, has(besideState(n, n, FLIPPED, STILL), flipped.toString()), 1);
                due.is("ROUND of the others has " + on, has(besideState(n, 0, STILL, ROUND), on.toString()), 1);
            }
        }
        due.is("ROUND of others: the last to their first", has(besideState(5, 2, STILL, ROUND), "01342"), 1);
        due.is("ROUND of others: not to the first of all", has(besideState(5, 2, STILL, ROUND), "12340"), 0);
    }

    // ---- 3 beside

    private static void besideTakesNoneToMany() {
        for (int many = 1; many <= 7; many++) {
            int n = many;
            edges.from(0, many, OUTSIDE, "3 beside of " + many, () -> States.made(n, 2), (x, a) -> x.beside(a, ROUND, ROUND));
        }
        for (Supplier<TurnCounts> state : STATES) {
            int many = state.get().count(0);
            edges.from(0, many, OUTSIDE, "3 beside", state, (x, a) -> x.beside(a, STILL, ALL));
        }
    }

    private static void besideOfNoneAndOfAll() {
        for (int many = 1; many <= 7; many++) {
            for (int kind = STILL; kind <= ALL; kind++) {
                due.is("3 beside(0, 4, 0) of " + many, States.made(many, 2).beside(0, ALL, STILL), 1);
                due.is("3 beside(many, 0, 4) of " + many, States.made(many, 2).beside(many, STILL, ALL), 1);
                int size = sizeOfKind(kind, many);
                due.is("3 beside(0, 4, " + kind + ") of " + many, States.made(many, 2).beside(0, ALL, kind), size);
                due.is("3 beside(many, " + kind + ", 4) of " + many, States.made(many, 2).beside(many, kind, ALL), size);
            }
        }
        TurnCounts x = States.made(7, 2);
        due.is("3 beside(1, 4, 4)", x.beside(1, ALL, ALL), 720);
        due.is("3 beside(1, 4, 4): POINT 0 stays", x.orbit(0, 0), 1);
        due.is("3 beside(6, 4, 4)", x.beside(6, ALL, ALL), 720);
        due.is("3 beside(6, 4, 4): POINT 6 stays", x.orbit(6, 0), 1);
        due.is("3 beside(6, 4, 4): POINT 5 does not", x.orbit(5, 0), 6);
    }

    /** A KIND is looked at where it has nothing to turn, too. */
    private static void besideRefusesKinds() {
        for (Supplier<TurnCounts> state : STATES) {
            int many = state.get().count(0);
            for (int a : new int[] {0, 1, many}) {
                edges.from(STILL, ALL, OUTSIDE, "3 beside " + a + ", one", state, (x, kind) -> x.beside(a, kind, STILL));
                edges.from(STILL, ALL, OUTSIDE, "3 beside " + a + ", other", state, (x, kind) -> x.beside(a, STILL, kind));
            }
            edges.refused(OUTSIDE, "3 beside(-1, 5, 5)", state, x -> x.beside(-1, 5, 5));
        }
    }

    private static void besideIsInPlaceOfWhatWas() {
        TurnCounts x = States.made(6, 2);
        due.is("3 ALL", x.beside(6, ALL, STILL), 720);
        due.is("3 STILL behind ALL", x.beside(6, STILL, STILL), 1);
        due.is("3 TURNS behind ALL", x.count(1), 1);
        due.is("3 two and four", x.beside(2, ALL, ROUND), 8);
        due.is("3 four and two behind two and four", x.beside(4, ROUND, ALL), 8);
        due.is("3 POINT 0 reaches four", x.orbit(0, 0), 4);
        due.is("3 MANY stays", x.count(0), 6);
    }

    // ---- 4 blocks

    private static void blocksTakeWhatDividesMany() {
        for (int many = 1; many <= 7; many++) {
            for (int a = -1; a <= many + 8; a++) {
                TurnCounts x = States.made(many, 2);
                x.beside(many, ROUND, STILL);
                boolean divides = a >= 1 && a <= many && many % a == 0;
                due.is("4 blocks(" + a + ", 0, 0) of " + many, x.blocks(a, STILL, STILL), divides ? 1 : OUTSIDE);
                due.is("4 TURNS behind blocks(" + a + ", 0, 0) of " + many, x.count(1), divides ? 1 : many);
            }
        }
        for (Supplier<TurnCounts> state : STATES) {
            int many = state.get().count(0);
            edges.from(1, many, OUTSIDE, "4 blocks", state, (x, a) -> x.blocks(a, ALL, ROUND));
        }
        edges.refused(OUTSIDE, "4 blocks(2, 0, 0), no multiple", States::busy, x -> x.blocks(2, STILL, STILL));
        edges.refused(OUTSIDE, "4 blocks(3, 0, 0), no multiple", States::bare, x -> x.blocks(3, STILL, STILL));
        edges.refused(OUTSIDE, "4 blocks(-2, 0, 0)", States::bare, x -> x.blocks(-2, STILL, STILL));
    }

    private static void blocksOfOneAndOfAll() {
        for (int many = 1; many <= 7; many++) {
            for (int kind = STILL; kind <= ALL; kind++) {
                int size = sizeOfKind(kind, many);
                due.is("4 blocks(1, 4, " + kind + ") of " + many, States.made(many, 2).blocks(1, ALL, kind), size);
                due.is("4 blocks(many, " + kind + ", 4) of " + many, States.made(many, 2).blocks(many, kind, ALL), size);
            }
        }
        due.is("4 blocks of two has the swap of the last one", has(blocksState(6, 2, ALL, STILL), "012354"), 1);
        due.is("4 blocks of two has no swap across", has(blocksState(6, 2, ALL, STILL), "021345"), 0);
    }

    private static void blocksRefuseKinds() {
        for (Supplier<TurnCounts> state : STATES) {
            int many = state.get().count(0);
            for (int a : new int[] {1, many}) {
                edges.from(STILL, ALL, OUTSIDE, "4 blocks " + a + ", one", state, (x, kind) -> x.blocks(a, kind, STILL));
                edges.from(STILL, ALL, OUTSIDE, "4 blocks " + a + ", other", state, (x, kind) -> x.blocks(a, STILL, kind));
            }
            edges.refused(OUTSIDE, "4 blocks(0, 5, 5)", state, x -> x.blocks(0, 5, 5));
        }
    }

    private static void blocksComeFromTheLastToTheFirst() {
        due.is("4 blocks of two ROUND, one on", has(blocksState(6, 2, STILL, ROUND), "234501"), 1);
        due.is("4 blocks of two ROUND, two on", has(blocksState(6, 2, STILL, ROUND), "450123"), 1);
        due.is("4 blocks of two ROUND, POINTS round", has(blocksState(6, 2, STILL, ROUND), "123450"), 0);
        due.is("4 blocks of three ROUND", has(blocksState(6, 3, STILL, ROUND), "345012"), 1);
        due.is("4 within the last block ROUND", has(blocksState(6, 3, ROUND, STILL), "012453"), 1);
        due.is("4 within the first block ROUND", has(blocksState(6, 3, ROUND, STILL), "120345"), 1);
        due.is("4 blocks FLIPPED keep places", has(blocksState(6, 2, STILL, FLIPPED), "452301"), 1);
        due.is("4 blocks FLIPPED do not flip POINTS", has(blocksState(6, 2, STILL, FLIPPED), "543210"), 0);
    }

    /** EVEN of two blocks of two moves nothing, though their change is even in POINTS. */
    private static void blocksCountPairsOfBlocks() {
        due.is("4 EVEN of two blocks", States.made(4, 2).blocks(2, STILL, EVEN), 1);
        due.is("4 EVEN of two blocks of two", has(blocksState(4, 2, STILL, EVEN), "2301"), 0);
        due.is("4 EVEN of three blocks", States.made(6, 2).blocks(2, STILL, EVEN), 3);
        due.is("4 EVEN within each block", States.made(6, 2).blocks(3, EVEN, STILL), 9);
        due.is("4 EVEN within each block, not in all", has(blocksState(4, 2, EVEN, STILL), "1032"), 0);
    }

    private static void blocksAreInPlaceOfWhatWas() {
        TurnCounts x = States.made(6, 2);
        due.is("4 blocks of two", x.blocks(2, ALL, ALL), 48);
        due.is("4 blocks of three behind those of two", x.blocks(3, ALL, ALL), 72);
        due.is("4 STILL behind all", x.blocks(3, STILL, STILL), 1);
        due.is("4 TURNS", x.count(1), 1);
        due.is("4 beside, then blocks", x.beside(6, ALL, STILL) + x.blocks(6, ROUND, STILL), 726);
    }

    // ---- 5 join

    private static void joinWantsAsManySignsAsPoints() {
        String figures = "0123456";
        for (int many = 1; many <= 7; many++) {
            for (int signs = 0; signs <= 7; signs++) {
                TurnCounts x = States.made(many, 2);
                States.tell(x, figures.substring(0, signs));
                due.is("5 join() of " + signs + " signs, MANY " + many, x.join(), signs == many ? 1 : FAULT);
                due.is("5 signs behind that", x.count(3), signs == many ? 0 : signs);
            }
        }
    }

    /** Each place takes the figures of all POINTS, and neither the sign ahead of 0 nor the figure MANY. */
    private static void joinWantsFiguresOfPoints() {
        for (int many = 1; many <= 7; many++) {
            for (int place = 0; place < many; place++) {
                for (int sign = 33; sign <= 126; sign++) {
                    StringBuilder signs = new StringBuilder("0123456".substring(0, many));
                    int goal = sign - '0';
                    if (goal >= 0 && goal < many) {
                        signs.setCharAt(goal, (char) ('0' + place));
                    }
                    signs.setCharAt(place, (char) sign);
                    int want = goal < 0 || goal >= many ? FAULT : goal == place ? 1 : 2;
                    TurnCounts x = States.made(many, 2);
                    States.tell(x, signs.toString());
                    due.is("5 join() of " + signs, x.join(), want);
                }
            }
        }
    }

    private static void joinWantsNoTwoToOne() {
        for (int many = 2; many <= 7; many++) {
            for (int place = 0; place < many; place++) {
                for (int goal = 0; goal < many; goal++) {
                    StringBuilder signs = new StringBuilder("0123456".substring(0, many));
                    signs.setCharAt(place, (char) ('0' + goal));
                    TurnCounts x = States.made(many, 2);
                    States.tell(x, signs.toString());
                    due.is("5 join() of " + signs, x.join(), goal == place ? 1 : FAULT);
                }
            }
        }
    }

    private static void joinFaultChangesNothing() {
        edges.refused(FAULT, "5 join(), THE PAD empty", States::bare, TurnCounts::join);
        edges.refused(FAULT, "5 join(), THE PAD empty, one POINT", States::smallest, TurnCounts::join);
        edges.refused(FAULT, "5 join(), too few signs", States::busy, TurnCounts::join);
        edges.refused(FAULT, "5 join(), too many signs", States::full, TurnCounts::join);
        for (String wrong : new String[] {"013", "113", "/10", "10:", "12~", "!01", "3120"}) {
            edges.refused(FAULT, "5 join() of " + wrong, () -> withPad(wrong), TurnCounts::join);
        }
        TurnCounts x = withPad("013");
        x.join();
        x.points(4);
        due.is("5 the signs of a FAULT stay: the next one", x.say('2'), 4);
        due.is("5 the signs of a FAULT stay", x.turn(1), 211);
    }

    private static void joinEmptiesThePad() {
        TurnCounts x = States.told();
        due.is("5 join()", x.join(), 6);
        due.is("5 signs behind join()", x.count(3), 0);
        due.is("5 join() again", x.join(), FAULT);
        due.is("5 the first sign behind join()", x.say('0'), 1);
        x = States.made(7, 2);
        States.tell(x, "1234560");
        due.is("5 join() of a full PAD", x.join(), 7);
        due.is("5 a full PAD is empty then", x.count(3), 0);
        due.is("5 it takes a sign then", x.say('~'), 1);
    }

    private static void joinOfWhatIsThere() {
        for (int many = 1; many <= 7; many++) {
            TurnCounts x = States.made(many, 2);
            States.tell(x, "0123456".substring(0, many));
            due.is("5 join() of what brings none elsewhere", x.join(), 1);
            due.is("5 signs behind that", x.count(3), 0);
            due.is("5 TURNS behind that", x.count(1), 1);
        }
        TurnCounts x = States.largest();
        due.is("5 join() where all TURNS are there", x.join(), 5040);
        due.is("5 signs behind that, too", x.count(3), 0);
    }

    private static void joinGoesUpToAllTurns() {
        for (int many = 2; many <= 7; many++) {
            TurnCounts x = States.made(many, 2);
            String figures = "0123456".substring(0, many);
            for (int i = 2; i <= many; i++) {
                // the last of i POINTS is changed with the one ahead of it: all TURNS of i POINTS
                States.tell(x, figures.substring(0, i - 2) + (i - 1) + (i - 2) + figures.substring(i));
                due.is("5 join() for " + i + " POINTS of " + many, x.join(), FACTORIALS[i]);
            }
        }
        TurnCounts x = States.made(7, 2);
        String[] chain = {"1032456", "2301456", "1023456", "1203456", "0123546", "0123465", "0123564"};
        int[] sizes = {2, 4, 8, 24, 48, 144, 144};
        for (int i = 0; i < chain.length; i++) {
            States.tell(x, chain[i]);
            due.is("5 join() of " + chain[i], x.join(), sizes[i]);
        }
        States.tell(x, "0124356");
        due.is("5 join() across", x.join(), 5040);
    }

    // ---- 6 say, 7 wipe

    private static void saySignsAre33To126() {
        for (Supplier<TurnCounts> state : List.<Supplier<TurnCounts>>of(States::bare, States::busy, States::told)) {
            edges.from(33, 126, OUTSIDE, "6 say", state, TurnCounts::say);
        }
        for (int sign = 0; sign <= 300; sign++) {
            due.is("6 say(" + sign + ")", new TurnCounts().say(sign), sign >= 33 && sign <= 126 ? 1 : OUTSIDE);
        }
    }

    private static void saySevenSigns() {
        TurnCounts x = new TurnCounts();
        for (int i = 1; i <= 7; i++) {
            due.is("6 sign " + i, x.say('~'), i);
            due.is("6 signs", x.count(3), i);
        }
        due.is("6 the eighth sign", x.say('~'), FULL);
        due.is("6 the eighth sign again", x.say('!'), FULL);
        due.is("6 signs stay", x.count(3), 7);
        edges.refused(FULL, "6 say(33), FULL", States::full, y -> y.say(33));
        edges.refused(FULL, "6 say(126), FULL", States::largest, y -> y.say(126));
        for (int sign : new int[] {32, 127, Integer.MIN_VALUE, Integer.MAX_VALUE}) {
            edges.refused(OUTSIDE, "6 say(" + sign + "), FULL, too", States::full, y -> y.say(sign));
        }
        due.is("6 seven signs with one POINT", sevenSigns(States.smallest()), 7);
    }

    private static int sevenSigns(TurnCounts x) {
        States.say(x, "!!!!!!!");
        return x.count(3);
    }

    private static void wipeEmptyAndFull() {
        edges.tells(0, "7 wipe() of nothing", States::bare, TurnCounts::wipe);
        for (int signs = 1; signs <= 7; signs++) {
            TurnCounts x = new TurnCounts();
            States.say(x, "1032456".substring(0, signs));
            due.is("7 wipe() of " + signs, x.wipe(), signs);
            due.is("7 signs behind wipe()", x.count(3), 0);
            due.is("7 turn(0) behind wipe()", x.turn(0), FAULT);
            due.is("7 wipe() again", x.wipe(), 0);
            due.is("7 say behind wipe()", x.say('0'), 1);
        }
        TurnCounts x = States.full();
        x.wipe();
        due.is("7 TURNS stay", x.count(1), 1);
        due.is("7 IMAGES stay", x.count(4), 3);
        due.is("7 SORTS stays", x.count(2), 3);
    }

    // ---- 8 turn

    private static void turnTakesThreeQuestions() {
        edges.from(0, 2, OUTSIDE, "8 turn", States::told, TurnCounts::turn);
        edges.from(0, 2, OUTSIDE, "8 turn", States::largest, TurnCounts::turn);
    }

    private static void turnFaultsAsWithJoin() {
        for (int what = 0; what <= 2; what++) {
            int asked = what;
            edges.refused(FAULT, "8 turn(" + what + "), THE PAD empty", States::bare, x -> x.turn(asked));
            edges.refused(FAULT, "8 turn(" + what + "), too few signs", States::busy, x -> x.turn(asked));
            edges.refused(FAULT, "8 turn(" + what + "), too many signs", States::full, x -> x.turn(asked));
            for (String wrong : new String[] {"013", "113", "011", "/10", "10:", "12~", "!01", "3120"}) {
                edges.refused(FAULT, "8 turn(" + what + ") of " + wrong, () -> withPad(wrong), x -> x.turn(asked));
            }
        }
        TurnCounts x = States.made(7, 2);
        States.tell(x, "0123457");
        due.is("8 turn(0), figure 7", x.turn(0), FAULT);
        States.tell(x, "6543210");
        due.is("8 turn(0), figures 0 to 6", x.turn(0), 0);
    }

    private static void turnLeavesThePad() {
        edges.tells(0, "8 turn(0)", States::told, x -> x.turn(0));
        edges.tells(21, "8 turn(1)", States::told, x -> x.turn(1));
        edges.tells(2, "8 turn(2)", States::told, x -> x.turn(2));
        edges.tells(1, "8 turn(0) of the largest", States::largest, x -> x.turn(0));
        TurnCounts x = States.told();
        x.turn(0);
        due.is("8 join() behind turn(0)", x.join(), 6);
    }

    private static void turnThatBringsNoneElsewhere() {
        for (int many = 1; many <= 7; many++) {
            TurnCounts x = States.made(many, 2);
            States.tell(x, "0123456".substring(0, many));
            due.is("8 turn(0) of what brings none elsewhere", x.turn(0), 1);
            due.is("8 its TYPE", x.turn(1), Integer.parseInt("1".repeat(many)));
            due.is("8 how often: 1 or more", x.turn(2), 1);
        }
    }

    private static void turnDoneMostOften() {
        String[] turns = {"0", "10", "120", "1230", "12043", "120453", "1230564"};
        int[] types = {1, 2, 3, 4, 32, 33, 43};
        int[] times = {1, 2, 3, 4, 6, 3, 12};
        for (int i = 0; i < turns.length; i++) {
            TurnCounts x = States.made(i + 1, 2);
            States.tell(x, turns[i]);
            due.is("8 TYPE of " + turns[i], x.turn(1), types[i]);
            due.is("8 how often " + turns[i], x.turn(2), times[i]);
        }
        for (String turn : States.allTurns(6)) {
            TurnCounts x = States.made(6, 2);
            States.tell(x, turn);
            due.is("8 TYPE of " + turn, x.turn(1), typeOf(turn));
            due.is("8 how often " + turn, x.turn(2), timesOf(turn));
        }
        for (String turn : new String[] {"1234560", "6012345", "1234065", "1203564", "1034562", "1032546", "2345601"}) {
            TurnCounts x = States.made(7, 2);
            States.tell(x, turn);
            due.is("8 TYPE of " + turn, x.turn(1), typeOf(turn));
            due.is("8 how often " + turn, x.turn(2), timesOf(turn));
        }
    }

    // ---- 9 type

    private static void typeFirstAndLast() {
        int[] amounts = {0, 1, 2, 3, 5, 7, 11, 15};
        for (int many = 1; many <= 7; many++) {
            TurnCounts x = States.made(many, 2);
            x.beside(many, ALL, STILL);
            int last = amounts[many] - 1;
            due.is("9 the first TYPE of " + many, x.type(0, 0), Integer.parseInt("1".repeat(many)));
            due.is("9 TURNS of the first TYPE of " + many, x.type(0, 1), 1);
            due.is("9 the last TYPE of " + many, x.type(last, 0), many);
            due.is("9 TURNS of the last TYPE of " + many, x.type(last, 1), FACTORIALS[many - 1]);
            for (int what = 0; what <= 1; what++) {
                due.is("9 behind the last TYPE of " + many, x.type(last + 1, what), NONE);
                due.is("9 the farthest TYPE of " + many, x.type(Integer.MAX_VALUE, what), NONE);
            }
            int before = Integer.MAX_VALUE;
            int sum = 0;
            for (int i = 0; i <= last; i++) {
                due.is("9 TYPES fall", x.type(i, 0) < before ? 1 : 0, 1);
                before = x.type(i, 0);
                sum += x.type(i, 1);
            }
            due.is("9 TURNS of all TYPES", sum, FACTORIALS[many]);
        }
    }

    private static void typeMinusOne() {
        for (int what = 0; what <= 1; what++) {
            int asked = what;
            edges.tells(1, "9 type(-1, " + what + ")", States::bare, x -> x.type(-1, asked));
            edges.tells(2, "9 type(-1, " + what + ")", States::busy, x -> x.type(-1, asked));
            edges.tells(15, "9 type(-1, " + what + ")", States::largest, x -> x.type(-1, asked));
        }
    }

    private static void typeOutside() {
        for (Supplier<TurnCounts> state : STATES) {
            for (int i : new int[] {-2, -3, Integer.MIN_VALUE}) {
                edges.refused(OUTSIDE, "9 type(" + i + ", 0)", state, x -> x.type(i, 0));
                edges.refused(OUTSIDE, "9 type(" + i + ", 1)", state, x -> x.type(i, 1));
                edges.refused(OUTSIDE, "9 type(" + i + ", 2)", state, x -> x.type(i, 2));
            }
            for (int i : new int[] {-1, 0, 15, Integer.MAX_VALUE}) {
                edges.from(0, 1, OUTSIDE, "9 type " + i, state, (x, what) -> x.type(i, what));
            }
        }
    }

    private static void typesFewestAndMost() {
        TurnCounts x = States.made(7, 2);
        due.is("9 one TYPE", x.type(-1, 0), 1);
        due.is("9 TYPE 1 of one", x.type(1, 0), NONE);
        x.beside(7, ALL, STILL);
        due.is("9 the most TYPES", x.type(-1, 0), 15);
        due.is("9 TYPE 14", x.type(14, 0), 7);
        due.is("9 TYPE 15", x.type(15, 0), NONE);
        x.points(7);
        due.is("9 TYPE 1 behind the most", x.type(1, 0), NONE);
        due.is("9 only TYPES that THE GROUP has", x.beside(7, ROUND, STILL) + x.type(-1, 0), 9);
        due.is("9 TYPE 1 of ROUND", x.type(1, 0), 7);
        due.is("9 TURNS of TYPE 1 of ROUND", x.type(1, 1), 6);
    }

    // ---- 10 orbit

    private static void orbitTakesPointsOfMany() {
        for (Supplier<TurnCounts> state : STATES) {
            int last = state.get().count(0) - 1;
            edges.from(0, last, UNKNOWN, "10 orbit, 0", state, (x, point) -> x.orbit(point, 0));
            edges.from(0, last, UNKNOWN, "10 orbit, 1", state, (x, point) -> x.orbit(point, 1));
        }
        for (int many = 1; many <= 7; many++) {
            int n = many;
            edges.from(0, many - 1, UNKNOWN, "10 orbit of " + many, () -> States.made(n, 2), (x, point) -> x.orbit(point, 0));
        }
    }

    private static void orbitTakesTwoQuestions() {
        for (Supplier<TurnCounts> state : STATES) {
            int last = state.get().count(0) - 1;
            for (int point : new int[] {0, last}) {
                edges.from(0, 1, OUTSIDE, "10 orbit " + point, state, (x, what) -> x.orbit(point, what));
            }
            for (int what : new int[] {-1, 2}) {
                edges.refused(UNKNOWN, "10 orbit, both wrong", state, x -> x.orbit(-1, what));
                edges.refused(UNKNOWN, "10 orbit, both wrong", state, x -> x.orbit(last + 1, what));
            }
        }
    }

    private static void orbitLeastAndGreatest() {
        for (int many = 1; many <= 7; many++) {
            TurnCounts x = States.made(many, 2);
            for (int point = 0; point < many; point++) {
                due.is("10 orbit of STILL", x.orbit(point, 0), 1);
                due.is("10 holders of STILL", x.orbit(point, 1), 1);
            }
            x.beside(many, ALL, STILL);
            for (int point = 0; point < many; point++) {
                due.is("10 orbit of ALL", x.orbit(point, 0), many);
                due.is("10 holders of ALL", x.orbit(point, 1), FACTORIALS[many - 1]);
            }
        }
        TurnCounts x = States.made(7, 2);
        x.beside(6, ROUND, ALL);
        due.is("10 orbit of one that stays", x.orbit(6, 0), 1);
        due.is("10 all TURNS hold one that stays", x.orbit(6, 1), 6);
        due.is("10 one TURN holds one that goes round", x.orbit(5, 1), 1);
    }

    // ---- what is due, reckoned from the words of the document

    private static Supplier<TurnCounts> besideState(int many, int a, int one, int other) {
        return () -> {
            TurnCounts x = States.made(many, 2);
            x.beside(a, one, other);
            return x;
        };
    }

    private static Supplier<TurnCounts> blocksState(int many, int a, int one, int other) {
        return () -> {
            TurnCounts x = States.made(many, 2);
            x.blocks(a, one, other);
            return x;
        };
    }

    private static TurnCounts withPad(String signs) {
        TurnCounts x = States.told();
        States.tell(x, signs);
        return x;
    }

    private static int has(Supplier<TurnCounts> state, String turn) {
        TurnCounts x = state.get();
        States.tell(x, turn);
        return x.turn(0);
    }

    private static int sizeOfKind(int kind, int n) {
        switch (kind) {
            case STILL:
                return 1;
            case ROUND:
                return n;
            case FLIPPED:
                return n <= 2 ? n : 2 * n;
            case EVEN:
                return n <= 1 ? 1 : FACTORIALS[n] / 2;
            default:
                return FACTORIALS[n];
        }
    }

    private static boolean isOfKind(int kind, String turn) {
        int n = turn.length();
        int same = 0;
        int changed = 0;
        boolean round = true;
        boolean flipped = true;
        for (int i = 0; i < n; i++) {
            int goal = turn.charAt(i) - '0';
            int first = turn.charAt(0) - '0';
            same += goal == i ? 1 : 0;
            round &= goal == (first + i) % n;
            flipped &= goal == (first - i + n) % n;
            for (int j = i + 1; j < n; j++) {
                changed += turn.charAt(i) > turn.charAt(j) ? 1 : 0;
            }
        }
        boolean[] is = {same == n, round, round || flipped, changed % 2 == 0, true};
        return is[kind];
    }

    private static int cycleLength(String turn, int point) {
        int length = 1;
        for (int at = turn.charAt(point) - '0'; at != point; at = turn.charAt(at) - '0') {
            length++;
        }
        return length;
    }

    private static int typeOf(String turn) {
        int type = 0;
        for (int length = 7; length >= 1; length--) {
            int points = 0;
            for (int point = 0; point < turn.length(); point++) {
                points += cycleLength(turn, point) == length ? 1 : 0;
            }
            for (int cycle = 0; cycle < points / length; cycle++) {
                type = type * 10 + length;
            }
        }
        return type;
    }

    private static int timesOf(String turn) {
        int times = 1;
        while (!isDoneBy(turn, times)) {
            times++;
        }
        return times;
    }

    private static boolean isDoneBy(String turn, int times) {
        for (int point = 0; point < turn.length(); point++) {
            if (times % cycleLength(turn, point) != 0) {
                return false;
            }
        }
        return true;
    }
}
