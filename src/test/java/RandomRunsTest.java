import java.util.Random;

/** Long runs of mixed calls, the same each time, held against NaiveTurnCounts. */
public final class RandomRunsTest {
    private static final int RUNS = 200;
    /** An object is used for 512 calls at most; telling a whole TURN and joining it takes nine. */
    private static final int CALLS = 512;
    private static final int MOST_AT_ONCE = 9;
    private static final Due due = new Due();

    private final Random random;
    private final TurnCounts x = new TurnCounts();
    private final NaiveTurnCounts y = new NaiveTurnCounts();
    private final String name;
    private int calls = 0;

    private RandomRunsTest(int seed) {
        random = new Random(seed);
        name = "run " + seed + ", call ";
    }

    public static void main(String[] args) {
        for (int seed = 0; seed < RUNS; seed++) {
            new RandomRunsTest(seed).run();
        }
        due.end();
    }

    private void run() {
        while (calls + MOST_AT_ONCE <= CALLS) {
            one();
        }
    }

    /** Mostly a number from low to high, now and then one just outside or far away. */
    private int pick(int low, int high) {
        int r = random.nextInt(40);
        if (r == 0) return low - 1;
        if (r == 1) return high + 1;
        if (r == 2) return random.nextInt();
        return low + random.nextInt(high - low + 1);
    }

    private int number() {
        int total = 1;
        for (int p = 0; p < y.count(0); p++) total *= y.count(2);
        return pick(0, total - 1);
    }

    private void one() {
        int a;
        int b;
        int c;
        switch (random.nextInt(26)) {
            case 0:
                if (random.nextInt(3) != 0) return;
                a = pick(1, 7);
                is("points " + a, x.points(a), y.points(a));
                break;
            case 1:
                a = pick(0, y.count(0));
                b = pick(0, 4);
                c = pick(0, 4);
                is("beside " + a + " " + b + " " + c, x.beside(a, b, c), y.beside(a, b, c));
                break;
            case 2:
                a = pick(1, y.count(0));
                b = pick(0, 4);
                c = pick(0, 4);
                is("blocks " + a + " " + b + " " + c, x.blocks(a, b, c), y.blocks(a, b, c));
                break;
            case 3:
            case 4:
                tellTurn();
                break;
            case 5:
                is("join", x.join(), y.join());
                break;
            case 6:
                a = pick(random.nextBoolean() ? 33 : 48, random.nextBoolean() ? 126 : 55);
                is("say " + a, x.say(a), y.say(a));
                break;
            case 7:
                is("wipe", x.wipe(), y.wipe());
                break;
            case 8:
                a = pick(0, 2);
                is("turn " + a, x.turn(a), y.turn(a));
                break;
            case 9:
            case 10:
                a = pick(-1, 15);
                b = pick(0, 1);
                is("type " + a + " " + b, x.type(a, b), y.type(a, b));
                break;
            case 11:
                a = pick(0, y.count(0) - 1);
                b = pick(0, 1);
                is("orbit " + a + " " + b, x.orbit(a, b), y.orbit(a, b));
                break;
            case 12:
                a = pick(1, 4);
                is("sorts " + a, x.sorts(a), y.sorts(a));
                break;
            case 13:
                a = pick(0, 3);
                b = pick(0, 9);
                is("weight " + a + " " + b, x.weight(a, b), y.weight(a, b));
                break;
            case 14:
            case 15:
                a = random.nextBoolean() ? pick(-1, 63) : pick(-1, 12);
                is("patterns " + a, x.patterns(a), y.patterns(a));
                break;
            case 16:
            case 17:
                a = pick(0, Math.max(0, y.patterns(-1)));
                b = pick(0, 4);
                is("pattern " + a + " " + b, x.pattern(a, b), y.pattern(a, b));
                break;
            case 18:
            case 19:
                a = number();
                b = pick(0, 3);
                is("of " + a + " " + b, x.of(a, b), y.of(a, b));
                break;
            case 20:
                a = pick(0, 3);
                is("kinds " + a, x.kinds(a), y.kinds(a));
                break;
            case 21:
            case 22:
                a = number();
                b = pick(0, y.count(0) - 1);
                is("by " + a + " " + b, x.by(a, b), y.by(a, b));
                break;
            case 23:
                a = pick(0, 1);
                is("image " + a, x.image(a), y.image(a));
                break;
            case 24:
                a = pick(0, 1);
                is("restore " + a, x.restore(a), y.restore(a));
                break;
            default:
                a = random.nextBoolean() ? pick(0, 4) : pick(10, 13);
                is("count " + a, x.count(a), y.count(a));
        }
    }

    /** A whole TURN on THE PAD, of few changes, so that joining makes small groups, too. */
    private void tellTurn() {
        is("wipe", x.wipe(), y.wipe());
        int many = y.count(0);
        int[] goals = new int[many];
        for (int i = 0; i < many; i++) goals[i] = i;
        int changes = random.nextInt(4);
        for (int i = 0; i < changes; i++) {
            int p = random.nextInt(many);
            int q = random.nextInt(many);
            int goal = goals[p];
            goals[p] = goals[q];
            goals[q] = goal;
        }
        for (int goal : goals) is("say", x.say('0' + goal), y.say('0' + goal));
        if (random.nextBoolean()) is("join", x.join(), y.join());
    }

    private void is(String what, int got, int want) {
        calls++;
        due.is(name + calls + ": " + what, got, want);
    }
}
