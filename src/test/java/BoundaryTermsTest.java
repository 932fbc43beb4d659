import java.util.List;
import java.util.function.Supplier;

/** Each sentence of "Terms" and "What it is" that names a boundary case and holds for many calls. */
public final class BoundaryTermsTest {
    private static final int UNKNOWN = TurnCounts.UNKNOWN, OUTSIDE = TurnCounts.OUTSIDE, STATE = TurnCounts.STATE;
    private static final int FULL = TurnCounts.FULL, NO = TurnCounts.NO, NONE = TurnCounts.NONE, FAULT = TurnCounts.FAULT;
    private static final int[] ANY = {Integer.MIN_VALUE, -7, -6, -2, -1, 0, 1, 2, 3, 4, 5, 7, 8, 14, 33, 64, 16384,
        Integer.MAX_VALUE};
    private static final Due due = new Due();
    private static final Edges edges = new Edges(due);

    public static void main(String[] args) {
        constants();
        firstRefusalInTheOrderTold();
        secondRefusalWhereTheFirstDoesNotFit();
        noneOnlyWhereNoRefusalFits();
        whatOnlyTellsChangesNothing();
        noArgumentsBreakACall();
        toldAsThingsAreWhenAsked();
        refusedAndThenToldAsThingsAre();
        the512thCall();
        objectsShareNothing();
        due.end();
    }

    private static void constants() {
        int[] constants = {UNKNOWN, OUTSIDE, STATE, FULL, NO, NONE, FAULT};
        for (int i = 0; i < constants.length; i++) {
            due.is("constant " + i, constants[i], -1 - i);
        }
    }

    /** Each call that can earn two refusals earns both. */
    private static void firstRefusalInTheOrderTold() {
        edges.refused(OUTSIDE, "say: OUTSIDE, then FULL", States::full, x -> x.say(127));
        edges.refused(OUTSIDE, "say: OUTSIDE, then FULL", States::full, x -> x.say(32));
        edges.refused(OUTSIDE, "turn: OUTSIDE, then FAULT", States::bare, x -> x.turn(3));
        edges.refused(OUTSIDE, "turn: OUTSIDE, then FAULT", States::busy, x -> x.turn(-1));
        edges.refused(UNKNOWN, "orbit: UNKNOWN, then OUTSIDE", States::bare, x -> x.orbit(4, 2));
        edges.refused(UNKNOWN, "orbit: UNKNOWN, then OUTSIDE", States::busy, x -> x.orbit(-1, -1));
        edges.refused(UNKNOWN, "weight: UNKNOWN, then OUTSIDE", States::bare, x -> x.weight(4, 10));
        edges.refused(UNKNOWN, "weight: UNKNOWN, then OUTSIDE", States::busy, x -> x.weight(-1, -1));
        edges.refused(OUTSIDE, "by: OUTSIDE, then UNKNOWN", States::bare, x -> x.by(16, 4));
        edges.refused(OUTSIDE, "by: OUTSIDE, then UNKNOWN", States::busy, x -> x.by(-1, -1));
        edges.refused(OUTSIDE, "restore: OUTSIDE, then STATE", States::bare, x -> x.restore(2));
        edges.refused(OUTSIDE, "restore: OUTSIDE, then STATE", States::busy, x -> x.restore(-1));
    }

    private static void secondRefusalWhereTheFirstDoesNotFit() {
        edges.refused(FULL, "say: FULL alone", States::full, x -> x.say(126));
        edges.refused(FAULT, "turn: FAULT alone", States::bare, x -> x.turn(2));
        edges.refused(OUTSIDE, "orbit: OUTSIDE alone", States::bare, x -> x.orbit(3, 2));
        edges.refused(OUTSIDE, "weight: OUTSIDE alone", States::bare, x -> x.weight(3, 10));
        edges.refused(UNKNOWN, "by: UNKNOWN alone", States::bare, x -> x.by(15, 4));
        edges.refused(STATE, "restore: STATE alone", States::bare, x -> x.restore(1));
    }

    private static void noneOnlyWhereNoRefusalFits() {
        edges.refused(OUTSIDE, "type: OUTSIDE, not NONE", States::bare, x -> x.type(1, 2));
        edges.refused(OUTSIDE, "type: OUTSIDE, not NONE", States::busy, x -> x.type(Integer.MAX_VALUE, -1));
        edges.tells(NONE, "type: NONE", States::bare, x -> x.type(1, 1));
        edges.refused(OUTSIDE, "pattern: OUTSIDE, not NONE", States::bare, x -> x.pattern(16, 5));
        edges.refused(OUTSIDE, "pattern: OUTSIDE, not NONE", States::busy, x -> x.pattern(-1, -1));
        edges.tells(NONE, "pattern: NONE", States::bare, x -> x.pattern(16, 4));
        edges.tells(NONE, "pattern: NONE below 0", States::bare, x -> x.pattern(-1, 4));
    }

    private static void whatOnlyTellsChangesNothing() {
        for (Supplier<TurnCounts> state : List.<Supplier<TurnCounts>>of(States::busy, States::told)) {
            edges.tells(2, "type(-1, 0)", state, x -> x.type(-1, 0));
            edges.tells(3, "orbit(2, 0)", state, x -> x.orbit(2, 0));
            edges.tells(4, "patterns(-1)", state, x -> x.patterns(-1));
            edges.tells(3, "pattern(1, 1)", state, x -> x.pattern(1, 1));
            edges.tells(1, "of(4, 1)", state, x -> x.of(4, 1));
            edges.tells(2, "kinds(2)", state, x -> x.kinds(2));
            edges.tells(2, "by(4, 0)", state, x -> x.by(4, 0));
            edges.tells(3, "count(0)", state, x -> x.count(0));
        }
    }

    /** No call throws, and none answers what it is not told to answer, for arguments of every size. */
    private static void noArgumentsBreakACall() {
        for (Supplier<TurnCounts> state : List.<Supplier<TurnCounts>>of(States::bare, States::busy, States::full,
                States::told, States::largest, States::smallest)) {
            for (int a : ANY) {
                answers("points " + a, state.get().points(a), OUTSIDE);
                answers("say " + a, state.get().say(a), OUTSIDE, FULL);
                answers("turn " + a, state.get().turn(a), OUTSIDE, FAULT);
                answers("sorts " + a, state.get().sorts(a), OUTSIDE);
                answers("patterns " + a, state.get().patterns(a), OUTSIDE);
                answers("kinds " + a, state.get().kinds(a), OUTSIDE);
                answers("image " + a, state.get().image(a), OUTSIDE);
                answers("restore " + a, state.get().restore(a), OUTSIDE, STATE);
                answers("count " + a, state.get().count(a), OUTSIDE);
                for (int b : ANY) {
                    twoArguments(state.get(), a, b);
                }
            }
        }
    }

    private static void twoArguments(TurnCounts x, int a, int b) {
        String with = " " + a + " " + b;
        answers("type" + with, x.type(a, b), OUTSIDE, NONE);
        answers("orbit" + with, x.orbit(a, b), UNKNOWN, OUTSIDE);
        answers("pattern" + with, x.pattern(a, b), OUTSIDE, NONE);
        answers("of" + with, x.of(a, b), OUTSIDE);
        answers("by" + with, x.by(a, b), OUTSIDE, UNKNOWN);
        answers("weight" + with, x.weight(a, b), UNKNOWN, OUTSIDE);
        answers("beside" + with, x.beside(a, b, 1), OUTSIDE);
        answers("beside, other," + with, x.beside(a, 1, b), OUTSIDE);
        answers("blocks" + with, x.blocks(a, b, 1), OUTSIDE);
        answers("blocks, other," + with, x.blocks(a, 1, b), OUTSIDE);
    }

    private static void answers(String call, int answer, int... told) {
        boolean fits = answer >= 0;
        for (int refusal : told) {
            fits |= answer == refusal;
        }
        due.is(call + " answered " + answer, fits ? 1 : 0, 1);
    }

    /** Each call that changes things, between two that ask for all of it. */
    private static void toldAsThingsAreWhenAsked() {
        asIfNotAsked("points", x -> x.points(2));
        asIfNotAsked("points of the same number", x -> x.points(3));
        asIfNotAsked("beside", x -> x.beside(2, 4, 0));
        asIfNotAsked("blocks", x -> x.blocks(1, 0, 4));
        asIfNotAsked("join", TurnCounts::join);
        asIfNotAsked("say", x -> x.say('3'));
        asIfNotAsked("wipe", TurnCounts::wipe);
        asIfNotAsked("fewer sorts", x -> x.sorts(1));
        asIfNotAsked("more sorts", x -> x.sorts(3));
        asIfNotAsked("weight", x -> x.weight(1, 8));
        asIfNotAsked("image", x -> x.image(1));
        asIfNotAsked("restore", x -> x.restore(0));
    }

    private static void asIfNotAsked(String name, Edges.Call change) {
        TurnCounts asked = imaged();
        ask(asked);
        int answer = change.on(asked);
        TurnCounts notAsked = imaged();
        due.is(name + " behind questions", answer, change.on(notAsked));
        due.is(name + " is taken", Edges.isTaken(answer) ? 1 : 0, 1);
        due.is(name + ": all is told as it is then", Probe.all(asked).equals(Probe.all(notAsked)) ? 1 : 0, 1);
    }

    /** A TURN is told; IMAGE 0 is of two POINTS that are changed. */
    private static TurnCounts imaged() {
        TurnCounts x = States.made(2, 2);
        x.beside(2, 4, 0);
        x.image(0);
        x.points(3);
        x.beside(3, 1, 0);
        States.say(x, "102");
        return x;
    }

    /** One question of each sort, so that whatever is reckoned ahead has been reckoned. */
    private static void ask(TurnCounts x) {
        x.turn(0);
        x.type(0, 0);
        x.orbit(0, 0);
        x.patterns(-1);
        x.patterns(1);
        x.pattern(0, 3);
        x.of(1, 2);
        x.kinds(0);
        x.kinds(3);
        x.by(1, 0);
    }

    private static void refusedAndThenToldAsThingsAre() {
        TurnCounts x = imaged();
        x.patterns(-1);
        x.beside(3, 4, 0);
        due.is("beside refused behind one taken", x.beside(3, 5, 0), OUTSIDE);
        due.is("PATTERNS of the one taken", x.kinds(3), 3);
        due.is("TURNS of the one taken", x.count(1), 6);
        x.points(4);
        due.is("points refused behind those taken", x.points(8), OUTSIDE);
        due.is("PATTERNS of those taken", x.patterns(-1), 16);
    }

    /** An object is used for 512 calls: the last one of them is answered as the first one. */
    private static void the512thCall() {
        TurnCounts x = new TurnCounts();
        for (int call = 1; call < 512; call++) {
            due.is("call " + call, x.say('0'), call <= 7 ? call : FULL);
        }
        due.is("call 512", x.wipe(), 7);
        x = new TurnCounts();
        x.points(7);
        x.sorts(4);
        for (int call = 3; call < 512; call++) {
            boolean all = call % 2 == 0;
            due.is("call " + call, x.beside(7, all ? 4 : 1, 0), all ? 5040 : 7);
        }
        due.is("call 512, PATTERNS", x.patterns(-1), 2344);
    }

    private static void objectsShareNothing() {
        TurnCounts x = States.full();
        TurnCounts y = new TurnCounts();
        TurnCounts z = new TurnCounts();
        x.points(7);
        x.weight(0, 4);
        x.image(0);
        due.is("a new object beside another", Probe.all(y).equals(Probe.all(z)) ? 1 : 0, 1);
        due.is("MANY of it", new TurnCounts().count(0), 4);
        due.is("WEIGHT of it", new TurnCounts().count(10), 0);
        due.is("IMAGES of it", new TurnCounts().count(4), 0);
    }
}
