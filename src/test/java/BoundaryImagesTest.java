import java.util.List;
import java.util.function.Supplier;

/** Each sentence of promises 18 to 20 that names a boundary case, and of the terms that they use. */
public final class BoundaryImagesTest {
    private static final int OUTSIDE = TurnCounts.OUTSIDE, STATE = TurnCounts.STATE, FAULT = TurnCounts.FAULT;
    private static final List<Supplier<TurnCounts>> STATES =
        List.of(States::bare, States::busy, States::full, States::told, States::largest, States::smallest);
    private static final Due due = new Due();
    private static final Edges edges = new Edges(due);

    public static void main(String[] args) {
        imagesAreTwo();
        imageRefusedKeepsNothing();
        imageTakesThePlaceOfWhatWasKept();
        imageKeepsAllButThePad();
        imageIsNotChangedByWhatComesLater();
        imageOfTheLargestAndTheSmallest();

        restoreTakesWhatIsKept();
        restoreOfWhatIsNotKept();
        restoreLeavesTheImage();
        restoreLeavesThePad();
        restoreOfOneLeavesTheOther();

        countTakesNineQuestions();
        countLeastAndGreatest();
        countOfImagesIsASet();
        countOfWeightsGoesByNoSorts();
        due.end();
    }

    // ---- 18 image

    private static void imagesAreTwo() {
        for (Supplier<TurnCounts> state : STATES) {
            edges.from(0, 1, OUTSIDE, "18 image", state, TurnCounts::image);
        }
        TurnCounts x = new TurnCounts();
        due.is("18 image(0)", x.image(0), 1);
        due.is("18 image(1)", x.image(1), 1);
        due.is("18 image(0) again", x.image(0), 1);
        due.is("18 image(1) again", x.image(1), 1);
    }

    private static void imageRefusedKeepsNothing() {
        for (int k : new int[] {-1, 2, 3, 31, 32, 33, Integer.MIN_VALUE, Integer.MAX_VALUE}) {
            TurnCounts x = new TurnCounts();
            due.is("18 image(" + k + ")", x.image(k), OUTSIDE);
            due.is("18 IMAGES behind image(" + k + ")", x.count(4), 0);
            due.is("18 restore(0) behind image(" + k + ")", x.restore(0), STATE);
            due.is("18 restore(1) behind image(" + k + ")", x.restore(1), STATE);
        }
    }

    private static void imageTakesThePlaceOfWhatWasKept() {
        for (int k = 0; k <= 1; k++) {
            TurnCounts x = States.largest();
            x.image(k);
            x.points(2);
            x.sorts(3);
            x.weight(0, 5);
            due.is("18 image(" + k + ") in place", x.image(k), 1);
            x.points(6);
            x.restore(k);
            due.is("18 MANY of what took the place", x.count(0), 2);
            due.is("18 TURNS of what took the place", x.count(1), 1);
            due.is("18 SORTS of what took the place", x.count(2), 3);
            due.is("18 WEIGHT of what took the place", x.count(10), 5);
            due.is("18 PATTERNS of what took the place", x.patterns(-1), 9);
        }
    }

    private static void imageKeepsAllButThePad() {
        TurnCounts x = States.busy();
        x.image(1);
        x.points(7);
        x.beside(7, 4, 0);
        x.sorts(4);
        for (int colour = 0; colour < 4; colour++) {
            x.weight(colour, 4);
        }
        x.wipe();
        x.restore(1);
        States.say(x, "10");
        due.is("18 all is as on an object like it", Probe.all(x).equals(Probe.all(likeBusy())) ? 1 : 0, 1);
        x = States.busy();
        x.image(1);
        x.wipe();
        x.restore(1);
        due.is("18 THE PAD is not kept", x.count(3), 0);
    }

    private static TurnCounts likeBusy() {
        TurnCounts x = States.busy();
        x.image(1);
        return x;
    }

    private static void imageIsNotChangedByWhatComesLater() {
        TurnCounts x = States.told();
        x.image(0);
        x.join();
        x.weight(0, 9);
        x.weight(3, 0);
        x.sorts(3);
        x.restore(0);
        due.is("18 TURNS ahead of join()", x.count(1), 3);
        due.is("18 WEIGHT ahead of weight", x.count(10), 0);
        due.is("18 WEIGHT of a COLOUR not in use", x.count(13), 3);
        due.is("18 SORTS ahead of sorts", x.count(2), 2);
        due.is("18 the TURN joined is gone", turnIsThere(x, "102"), 0);
        due.is("18 those there stay", turnIsThere(x, "201"), 1);
        x.points(1);
        x.restore(0);
        due.is("18 MANY ahead of points", x.count(0), 3);
        due.is("18 TURNS ahead of points", x.count(1), 3);
    }

    private static int turnIsThere(TurnCounts x, String turn) {
        States.tell(x, turn);
        return x.turn(0);
    }

    private static void imageOfTheLargestAndTheSmallest() {
        TurnCounts x = States.largest();
        x.image(0);
        x.points(1);
        x.sorts(1);
        x.image(1);
        for (int round = 0; round < 3; round++) {
            due.is("18 restore(0)", x.restore(0), 1);
            due.is("18 TURNS of the largest", x.count(1), 5040);
            due.is("18 PATTERNS of the largest", x.patterns(-1), 120);
            due.is("18 TYPES of the largest", x.type(-1, 0), 15);
            due.is("18 restore(1)", x.restore(1), 1);
            due.is("18 TURNS of the smallest", x.count(1), 1);
            due.is("18 PATTERNS of the smallest", x.patterns(-1), 1);
            due.is("18 TYPES of the smallest", x.type(-1, 0), 1);
        }
        x.restore(0);
        States.tell(x, "6543210");
        due.is("18 join() behind restore(0)", x.join(), 5040);
    }

    // ---- 19 restore

    private static void restoreTakesWhatIsKept() {
        edges.from(0, 1, OUTSIDE, "19 restore", States::full, TurnCounts::restore);
        for (Supplier<TurnCounts> state : STATES) {
            for (int k : new int[] {-1, 2, 32, 33, Integer.MIN_VALUE, Integer.MAX_VALUE}) {
                edges.refused(OUTSIDE, "19 restore(" + k + ")", state, x -> x.restore(k));
            }
        }
    }

    private static void restoreOfWhatIsNotKept() {
        for (Supplier<TurnCounts> state : STATES) {
            int kept = state.get().count(4);
            for (int k = 0; k <= 1; k++) {
                int which = k;
                if ((kept >> k & 1) == 0) {
                    edges.refused(STATE, "19 restore(" + k + "), nothing kept", state, x -> x.restore(which));
                }
            }
        }
        TurnCounts x = new TurnCounts();
        x.image(1);
        due.is("19 restore(0), 1 alone is kept", x.restore(0), STATE);
        due.is("19 restore(1), 1 alone is kept", x.restore(1), 1);
        due.is("19 restore(0) behind that", x.restore(0), STATE);
    }

    private static void restoreLeavesTheImage() {
        for (int k = 0; k <= 1; k++) {
            TurnCounts x = States.told();
            x.image(k);
            for (int round = 0; round < 3; round++) {
                x.points(5 + round % 3);
                x.weight(1, round);
                due.is("19 restore(" + k + ")", x.restore(k), 1);
                due.is("19 MANY", x.count(0), 3);
                due.is("19 TURNS", x.count(1), 3);
                due.is("19 WEIGHT", x.count(11), 1);
                due.is("19 IMAGES", x.count(4), 1 << k);
                States.tell(x, "021");
                due.is("19 join() behind restore", x.join(), 6);
            }
        }
    }

    private static void restoreLeavesThePad() {
        TurnCounts x = States.told();
        x.image(0);
        x.points(4);
        x.say('3');
        due.is("19 four signs of four POINTS", x.turn(1), 211);
        x.restore(0);
        due.is("19 signs stay", x.count(3), 4);
        due.is("19 four signs of three POINTS", x.turn(1), FAULT);
        x.wipe();
        x.restore(0);
        due.is("19 an empty PAD stays empty", x.count(3), 0);
        x = States.full();
        x.restore(1);
        due.is("19 a full PAD stays full", x.say('0'), TurnCounts.FULL);
        x.points(7);
        due.is("19 its signs stay", x.turn(1), 322);
    }

    private static void restoreOfOneLeavesTheOther() {
        TurnCounts x = States.full();
        x.restore(0);
        due.is("19 MANY of IMAGE 0", x.count(0), 2);
        due.is("19 SORTS of IMAGE 0", x.count(2), 3);
        due.is("19 WEIGHT of IMAGE 0", x.count(10), 0);
        x.restore(1);
        due.is("19 SORTS of IMAGE 1", x.count(2), 1);
        due.is("19 WEIGHT of IMAGE 1", x.count(10), 9);
        x.restore(0);
        due.is("19 SORTS of IMAGE 0 again", x.count(2), 3);
        due.is("19 IMAGES", x.count(4), 3);
    }

    // ---- 20 count

    private static void countTakesNineQuestions() {
        for (Supplier<TurnCounts> state : STATES) {
            edges.from(0, 4, OUTSIDE, "20 count, the first ones", state, TurnCounts::count);
            edges.from(10, 13, OUTSIDE, "20 count, WEIGHTS", state, TurnCounts::count);
        }
        for (int what = -20; what <= 80; what++) {
            boolean taken = what >= 0 && what <= 4 || what >= 10 && what <= 13;
            due.is("20 count(" + what + ")", States.busy().count(what) == OUTSIDE ? 0 : 1, taken ? 1 : 0);
        }
    }

    private static void countLeastAndGreatest() {
        TurnCounts x = States.smallest();
        int[] least = {1, 1, 1, 0, 0};
        for (int what = 0; what <= 4; what++) {
            due.is("20 count(" + what + ") of the smallest", x.count(what), least[what]);
        }
        x = States.largest();
        x.image(0);
        x.image(1);
        int[] greatest = {7, 5040, 4, 7, 3};
        for (int what = 0; what <= 4; what++) {
            due.is("20 count(" + what + ") of the largest", x.count(what), greatest[what]);
        }
    }

    private static void countOfImagesIsASet() {
        TurnCounts x = new TurnCounts();
        due.is("20 no IMAGE", x.count(4), 0);
        x.image(1);
        due.is("20 IMAGE 1", x.count(4), 2);
        x.image(1);
        due.is("20 IMAGE 1 twice", x.count(4), 2);
        x.image(0);
        due.is("20 both", x.count(4), 3);
        x.restore(0);
        due.is("20 both behind restore", x.count(4), 3);
        x = new TurnCounts();
        x.image(0);
        due.is("20 IMAGE 0", x.count(4), 1);
    }

    private static void countOfWeightsGoesByNoSorts() {
        TurnCounts x = States.smallest();
        for (int colour = 0; colour < 4; colour++) {
            due.is("20 WEIGHT of " + colour + ", one COLOUR", x.count(10 + colour), colour);
            x.weight(colour, 9);
            due.is("20 the greatest WEIGHT of " + colour, x.count(10 + colour), 9);
            x.weight(colour, 0);
            due.is("20 the least WEIGHT of " + colour, x.count(10 + colour), 0);
        }
    }
}
