import java.util.ArrayList;
import java.util.List;

/** Objects in the states that calls are tried in, and what brings them there. */
final class States {
    private States() {
    }

    static TurnCounts bare() {
        return new TurnCounts();
    }

    static TurnCounts made(int many, int sorts) {
        TurnCounts x = new TurnCounts();
        x.points(many);
        x.sorts(sorts);
        return x;
    }

    /** Nothing as at first; IMAGE 0 alone is kept, and is another setting; THE PAD has two signs. */
    static TurnCounts busy() {
        TurnCounts x = made(2, 3);
        x.weight(1, 7);
        x.weight(3, 2);
        x.beside(2, 4, 0);
        x.image(0);
        x.points(3);
        x.sorts(2);
        x.weight(0, 9);
        x.weight(3, 6);
        x.beside(3, 1, 0);
        say(x, "10");
        return x;
    }

    /** Both IMAGES are kept, and THE PAD is full. */
    static TurnCounts full() {
        TurnCounts x = busy();
        x.points(2);
        x.sorts(1);
        x.image(1);
        x.sorts(3);
        say(x, "32564");
        return x;
    }

    /** A TURN of three POINTS that is not of THE GROUP is on THE PAD; no IMAGE is kept. */
    static TurnCounts told() {
        TurnCounts x = made(3, 2);
        x.beside(3, 1, 0);
        say(x, "102");
        return x;
    }

    /** As large as can be. */
    static TurnCounts largest() {
        TurnCounts x = made(7, 4);
        x.beside(7, 4, 0);
        say(x, "1234560");
        return x;
    }

    /** As small as can be. */
    static TurnCounts smallest() {
        return made(1, 1);
    }

    static void say(TurnCounts x, String signs) {
        for (int i = 0; i < signs.length(); i++) {
            x.say(signs.charAt(i));
        }
    }

    static void tell(TurnCounts x, String signs) {
        x.wipe();
        say(x, signs);
    }

    static int power(int base, int exponent) {
        int power = 1;
        for (int i = 0; i < exponent; i++) {
            power *= base;
        }
        return power;
    }

    /** All TURNS of so many POINTS, each as the signs that tell it. */
    static List<String> allTurns(int n) {
        List<String> all = new ArrayList<>();
        addTurns(all, "", n);
        return all;
    }

    private static void addTurns(List<String> all, String begun, int n) {
        if (begun.length() == n) {
            all.add(begun);
            return;
        }
        for (int goal = 0; goal < n; goal++) {
            if (begun.indexOf('0' + goal) < 0) {
                addTurns(all, begun + goal, n);
            }
        }
    }
}
