/**
 * All that an object tells, as one text: as things are, then as they are in each IMAGE, then what THE PAD tells.
 * Two objects whose texts are the same differ in nothing that a call could show. The object is used up by it.
 */
final class Probe {
    /** Of the 512 calls that the document grants an object, those that are left for making it. */
    private static final int MOST_CALLS = 512 - 40;
    /** Of more NUMBERS and PATTERNS than these only some are asked for. */
    private static final int FEW = 9;

    private final TurnCounts x;
    private final StringBuilder text = new StringBuilder();
    private int calls = 0;

    private Probe(TurnCounts x) {
        this.x = x;
    }

    static String all(TurnCounts x) {
        Probe probe = new Probe(x);
        probe.asThingsAre("now");
        for (int k = 0; k <= 1; k++) {
            if (probe.told("restore " + k, x.restore(k)) == 1) {
                probe.asThingsAre("image " + k);
            }
        }
        probe.pad();
        if (probe.calls > MOST_CALLS) {
            throw new IllegalStateException("a probe of " + probe.calls + " calls is too long");
        }
        return probe.text.toString();
    }

    private int told(String name, int answer) {
        calls++;
        text.append(name).append('=').append(answer).append('\n');
        return answer;
    }

    private void asThingsAre(String where) {
        text.append(where).append('\n');
        for (int what : new int[] {2, 3, 4, 10, 11, 12, 13}) {
            told("count " + what, x.count(what));
        }
        int many = told("count 0", x.count(0));
        group(many);
        colourings(many);
        for (int what = 0; what <= 3; what++) {
            told("kinds " + what, x.kinds(what));
        }
    }

    private void group(int many) {
        told("count 1", x.count(1));
        int types = told("type -1", x.type(-1, 0));
        for (int i = 0; i < types; i++) {
            told("type " + i + " 0", x.type(i, 0));
            told("type " + i + " 1", x.type(i, 1));
        }
        for (int point = 0; point < many; point++) {
            told("orbit " + point + " 0", x.orbit(point, 0));
            told("orbit " + point + " 1", x.orbit(point, 1));
        }
        for (int what = 0; what <= 2; what++) {
            told("turn " + what, x.turn(what));
        }
    }

    private void colourings(int many) {
        int patterns = told("patterns -1", x.patterns(-1));
        for (int i : some(patterns)) {
            for (int what = 0; what <= 4; what++) {
                told("pattern " + i + " " + what, x.pattern(i, what));
            }
        }
        int total = 1;
        for (int point = 0; point < many; point++) {
            total *= x.count(2);
            calls++;
        }
        for (int number : some(total)) {
            for (int what = 0; what <= 3; what++) {
                told("of " + number + " " + what, x.of(number, what));
            }
            for (int point = 0; point < many; point++) {
                told("by " + number + " " + point, x.by(number, point));
            }
        }
    }

    /** Which of so many NUMBERS or PATTERNS are asked for: few enough that an object has 512 calls at most. */
    static int[] some(int amount) {
        if (amount > FEW) {
            return new int[] {0, 1, 2, 5, amount / 3, amount / 2, amount - 2, amount - 1};
        }
        int[] each = new int[Math.max(0, amount)];
        for (int i = 0; i < each.length; i++) {
            each[i] = i;
        }
        return each;
    }

    /** The signs are told by the TURN that they are where there are as many POINTS. */
    private void pad() {
        int signs = told("signs", x.count(3));
        told("points", x.points(signs));
        for (int what = 0; what <= 2; what++) {
            told("turn " + what, x.turn(what));
        }
        told("join", x.join());
        told("sorts", x.sorts(2));
        for (int point = 0; point < signs; point++) {
            told("orbit " + point, x.orbit(point, 0));
            told("by 2 " + point, x.by(2, point));
        }
        told("wipe", x.wipe());
    }
}
