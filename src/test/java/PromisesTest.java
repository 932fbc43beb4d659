/** For each promise of the document: ordinary calls, the edges that it names, and wrong inputs. */
public final class PromisesTest {
    private static final int[] FAR = {Integer.MIN_VALUE, -1000, 1000, Integer.MAX_VALUE};
    private static final Due due = new Due();

    public static void main(String[] args) {
        newObject();
        points();
        beside();
        blocks();
        blocksTurnsEach();
        join();
        joinFaults();
        say();
        wipe();
        turn();
        type();
        orbit();
        sorts();
        weight();
        patterns();
        pattern();
        patternTwins();
        of();
        kinds();
        by();
        images();
        count();
        refusedChangesNothing();
        asThingsAre();
        due.end();
    }

    private static void tell(TurnCounts x, String signs) {
        x.wipe();
        for (int i = 0; i < signs.length(); i++) {
            due.is("say in " + signs, x.say(signs.charAt(i)), i + 1);
        }
    }

    private static TurnCounts made(int many, int sorts) {
        TurnCounts x = new TurnCounts();
        x.points(many);
        x.sorts(sorts);
        return x;
    }

    private static void newObject() {
        TurnCounts x = new TurnCounts();
        int[] counts = {4, 1, 2, 0, 0};
        for (int i = 0; i < counts.length; i++) {
            due.is("1 count(" + i + ")", x.count(i), counts[i]);
        }
        for (int c = 0; c < 4; c++) {
            due.is("1 weight of " + c, x.count(10 + c), c);
        }
        due.is("1 type(-1, 0)", x.type(-1, 0), 1);
        due.is("1 type(0, 0)", x.type(0, 0), 1111);
        due.is("1 type(0, 1)", x.type(0, 1), 1);
        due.is("1 patterns(-1)", x.patterns(-1), 16);
        due.is("1 restore(0)", x.restore(0), TurnCounts.STATE);
        due.is("1 restore(1)", x.restore(1), TurnCounts.STATE);
        due.is("1 wipe()", x.wipe(), 0);
        TurnCounts other = new TurnCounts();
        x.points(7);
        due.is("1 two objects share nothing", other.count(0), 4);
    }

    private static void points() {
        TurnCounts x = new TurnCounts();
        due.is("2 points(1)", x.points(1), 4);
        due.is("2 points(7)", x.points(7), 1);
        x.sorts(3);
        x.weight(1, 8);
        due.is("2 beside", x.beside(7, 1, 0), 7);
        x.say('0');
        due.is("2 points(7) again", x.points(7), 7);
        due.is("2 THE GROUP is as at first", x.count(1), 1);
        due.is("2 SORTS stays", x.count(2), 3);
        due.is("2 WEIGHT stays", x.count(11), 8);
        due.is("2 THE PAD stays", x.count(3), 1);
        due.is("2 patterns", x.patterns(-1), 2187);
        due.is("2 points(0)", x.points(0), TurnCounts.OUTSIDE);
        due.is("2 points(8)", x.points(8), TurnCounts.OUTSIDE);
        for (int far : FAR) {
            due.is("2 points(" + far + ")", x.points(far), TurnCounts.OUTSIDE);
        }
        due.is("2 MANY stays", x.count(0), 7);
    }

    private static void beside() {
        int[][] sizes = {{1, 1, 1, 1, 1, 1, 1, 1}, {1, 1, 2, 3, 4, 5, 6, 7}, {1, 1, 2, 6, 8, 10, 12, 14},
            {1, 1, 1, 3, 12, 60, 360, 2520}, {1, 1, 2, 6, 24, 120, 720, 5040}};
        for (int many = 1; many <= 7; many++) {
            TurnCounts x = made(many, 2);
            for (int a = 0; a <= many; a++) {
                for (int one = 0; one <= 4; one++) {
                    for (int other = 0; other <= 4; other++) {
                        String call = "3 beside(" + a + ", " + one + ", " + other + ") of " + many;
                        due.is(call, x.beside(a, one, other), (long) sizes[one][a] * sizes[other][many - a]);
                        due.is(call + ", count(1)", x.count(1), (long) sizes[one][a] * sizes[other][many - a]);
                    }
                }
            }
            due.is("3 beside(-1, 0, 0)", x.beside(-1, 0, 0), TurnCounts.OUTSIDE);
            due.is("3 beside(many + 1, 0, 0)", x.beside(many + 1, 0, 0), TurnCounts.OUTSIDE);
        }
        TurnCounts x = made(5, 2);
        due.is("3 beside(3, 1, 4)", x.beside(3, 1, 4), 6);
        for (int far : new int[] {Integer.MIN_VALUE, -1, 5, Integer.MAX_VALUE}) {
            due.is("3 beside(1, " + far + ", 0)", x.beside(1, far, 0), TurnCounts.OUTSIDE);
            due.is("3 beside(1, 0, " + far + ")", x.beside(1, 0, far), TurnCounts.OUTSIDE);
        }
        due.is("3 refused: THE GROUP stays", x.count(1), 6);
        isMember(x, "12034", 1);
        isMember(x, "20134", 1);
        isMember(x, "12043", 1);
        isMember(x, "10234", 0);
        isMember(x, "01324", 0);
        x.beside(4, 2, 0);
        isMember(x, "32104", 1);
        isMember(x, "03214", 1);
        isMember(x, "10234", 0);
    }

    private static void isMember(TurnCounts x, String turn, int want) {
        tell(x, turn);
        due.is("turn(0) of " + turn, x.turn(0), want);
        x.wipe();
    }

    private static void blocks() {
        TurnCounts x = made(6, 2);
        due.is("4 blocks(1, 4, 3)", x.blocks(1, 4, 3), 360);
        due.is("4 blocks(6, 3, 4)", x.blocks(6, 3, 4), 360);
        due.is("4 blocks(2, 4, 4)", x.blocks(2, 4, 4), 48);
        due.is("4 blocks(2, 0, 4)", x.blocks(2, 0, 4), 6);
        due.is("4 blocks(2, 3, 2)", x.blocks(2, 3, 2), 6);
        due.is("4 blocks(3, 2, 0)", x.blocks(3, 2, 0), 36);
        due.is("4 blocks(3, 1, 1)", x.blocks(3, 1, 1), 18);
        due.is("4 blocks(3, 3, 3)", x.blocks(3, 3, 3), 9);
        for (int a : new int[] {Integer.MIN_VALUE, -2, -1, 0, 4, 5, 7, 12, Integer.MAX_VALUE}) {
            due.is("4 blocks(" + a + ", 0, 0)", x.blocks(a, 0, 0), TurnCounts.OUTSIDE);
        }
        for (int kind : new int[] {Integer.MIN_VALUE, -1, 5, Integer.MAX_VALUE}) {
            due.is("4 blocks(2, " + kind + ", 0)", x.blocks(2, kind, 0), TurnCounts.OUTSIDE);
            due.is("4 blocks(2, 0, " + kind + ")", x.blocks(2, 0, kind), TurnCounts.OUTSIDE);
        }
        due.is("4 refused: THE GROUP stays", x.count(1), 9);
        x.points(7);
        due.is("4 blocks(2, 0, 0) of 7", x.blocks(2, 0, 0), TurnCounts.OUTSIDE);
        due.is("4 blocks(7, 2, 4) of 7", x.blocks(7, 2, 4), 14);
        x.points(1);
        due.is("4 blocks(1, 4, 4) of 1", x.blocks(1, 4, 4), 1);
    }

    private static void blocksTurnsEach() {
        TurnCounts x = made(6, 2);
        x.blocks(2, 4, 1);
        isMember(x, "234501", 1);
        isMember(x, "324501", 1);
        isMember(x, "102345", 1);
        isMember(x, "230145", 0);
        isMember(x, "120345", 0);
        x.blocks(2, 0, 4);
        isMember(x, "230145", 1);
        isMember(x, "320145", 0);
        x.blocks(3, 0, 2);
        isMember(x, "345012", 1);
        isMember(x, "543210", 0);
    }

    private static void join() {
        TurnCounts x = made(4, 2);
        tell(x, "1032");
        due.is("5 join()", x.join(), 2);
        due.is("5 THE PAD is empty", x.count(3), 0);
        tell(x, "2301");
        due.is("5 join() another", x.join(), 4);
        tell(x, "2301");
        due.is("5 join() what is there", x.join(), 4);
        due.is("5 THE PAD is empty then, too", x.count(3), 0);
        tell(x, "1203");
        due.is("5 join() of length 3", x.join(), 12);
        tell(x, "1023");
        due.is("5 join() that makes ALL", x.join(), 24);
        x = made(7, 2);
        tell(x, "1234560");
        due.is("5 join() of seven", x.join(), 7);
        tell(x, "1203456");
        due.is("5 join() what does not fit", x.join(), 2520);
        x = made(7, 2);
        tell(x, "1234560");
        x.join();
        tell(x, "0246135");
        due.is("5 join() doubling", x.join(), 21);
        x = made(7, 2);
        x.beside(3, 1, 0);
        tell(x, "0124563");
        due.is("5 join() behind beside", x.join(), 12);
        due.is("5 patterns behind join()", x.patterns(-1), 4 * 6);
        x = made(1, 2);
        tell(x, "0");
        due.is("5 join() of one POINT", x.join(), 1);
    }

    private static void joinFaults() {
        TurnCounts x = made(4, 2);
        due.is("5 join() of nothing", x.join(), TurnCounts.FAULT);
        for (String wrong : new String[] {"0", "012", "0122", "0124", "012/", "012a", "01230", "0123456", "012:"}) {
            tell(x, wrong);
            due.is("5 join() of " + wrong, x.join(), TurnCounts.FAULT);
            due.is("5 THE PAD stays", x.count(3), wrong.length());
            for (int what = 0; what <= 2; what++) {
                due.is("8 turn(" + what + ") of " + wrong, x.turn(what), TurnCounts.FAULT);
            }
        }
        due.is("5 refused: THE GROUP stays", x.count(1), 1);
        tell(x, "01234");
        x.points(5);
        due.is("5 join() as things are then", x.join(), 1);
    }

    private static void say() {
        TurnCounts x = new TurnCounts();
        for (int sign : new int[] {Integer.MIN_VALUE, -1, 0, 32, 127, 1000, Integer.MAX_VALUE}) {
            due.is("6 say(" + sign + ")", x.say(sign), TurnCounts.OUTSIDE);
        }
        for (int i = 1; i <= 7; i++) {
            due.is("6 say", x.say(i % 2 == 0 ? 33 : 126), i);
        }
        due.is("6 say(33), the eighth", x.say(33), TurnCounts.FULL);
        due.is("6 say(32), the eighth", x.say(32), TurnCounts.OUTSIDE);
        due.is("6 signs", x.count(3), 7);
    }

    private static void wipe() {
        TurnCounts x = new TurnCounts();
        due.is("7 wipe()", x.wipe(), 0);
        tell(x, "01234!~");
        due.is("7 wipe() of 7", x.wipe(), 7);
        due.is("7 wipe() again", x.wipe(), 0);
        due.is("7 say", x.say('0'), 1);
        due.is("7 the old signs are gone", x.join(), TurnCounts.FAULT);
    }

    private static void turn() {
        TurnCounts x = made(7, 2);
        String[] turns = {"0123456", "1032456", "1234560", "1203564", "1230564", "1023456", "1234065"};
        int[] types = {1111111, 22111, 7, 331, 43, 211111, 52};
        int[] times = {1, 2, 7, 3, 12, 2, 10};
        x.beside(7, 3, 0);
        int[] even = {1, 1, 1, 1, 0, 0, 0};
        for (int i = 0; i < turns.length; i++) {
            tell(x, turns[i]);
            due.is("8 turn(0) of " + turns[i], x.turn(0), even[i]);
            due.is("8 turn(1) of " + turns[i], x.turn(1), types[i]);
            due.is("8 turn(2) of " + turns[i], x.turn(2), times[i]);
            due.is("8 THE PAD stays", x.count(3), 7);
        }
        x.wipe();
        for (int what : new int[] {Integer.MIN_VALUE, -1, 3, Integer.MAX_VALUE}) {
            due.is("8 turn(" + what + "), THE PAD empty", x.turn(what), TurnCounts.OUTSIDE);
        }
        x = made(2, 2);
        tell(x, "10");
        due.is("8 turn(1) of 10", x.turn(1), 2);
        due.is("8 turn(2) of 10", x.turn(2), 2);
    }

    private static void type() {
        TurnCounts x = made(5, 2);
        x.beside(5, 4, 0);
        int[] types = {11111, 2111, 311, 221, 41, 32, 5};
        int[] turns = {1, 10, 20, 15, 30, 20, 24};
        due.is("9 type(-1, 0)", x.type(-1, 0), 7);
        due.is("9 type(-1, 1)", x.type(-1, 1), 7);
        for (int i = 0; i < 7; i++) {
            due.is("9 type(" + i + ", 0)", x.type(i, 0), types[i]);
            due.is("9 type(" + i + ", 1)", x.type(i, 1), turns[i]);
        }
        due.is("9 type(7, 0)", x.type(7, 0), TurnCounts.NONE);
        due.is("9 type(7, 1)", x.type(7, 1), TurnCounts.NONE);
        due.is("9 type(MAX, 0)", x.type(Integer.MAX_VALUE, 0), TurnCounts.NONE);
        due.is("9 type(7, 2)", x.type(7, 2), TurnCounts.OUTSIDE);
        due.is("9 type(-1, 2)", x.type(-1, 2), TurnCounts.OUTSIDE);
        due.is("9 type(0, -1)", x.type(0, -1), TurnCounts.OUTSIDE);
        due.is("9 type(-2, 0)", x.type(-2, 0), TurnCounts.OUTSIDE);
        due.is("9 type(MIN, 0)", x.type(Integer.MIN_VALUE, 0), TurnCounts.OUTSIDE);
        x.beside(5, 3, 0);
        due.is("9 type(-1, 0) of EVEN", x.type(-1, 0), 4);
        due.is("9 type(2, 0) of EVEN", x.type(2, 0), 221);
        x.points(2);
        due.is("9 type(0, 0) behind points(2)", x.type(0, 0), 11);
        due.is("9 type(-1, 0) behind points(2)", x.type(-1, 0), 1);
        tell(x, "10");
        x.join();
        due.is("9 type(1, 0) behind join()", x.type(1, 0), 2);
    }

    private static void orbit() {
        TurnCounts x = made(7, 2);
        x.beside(3, 4, 1);
        int[] reach = {3, 3, 3, 4, 4, 4, 4};
        int[] held = {8, 8, 8, 6, 6, 6, 6};
        for (int p = 0; p < 7; p++) {
            due.is("10 orbit(" + p + ", 0)", x.orbit(p, 0), reach[p]);
            due.is("10 orbit(" + p + ", 1)", x.orbit(p, 1), held[p]);
        }
        due.is("10 orbit(7, 0)", x.orbit(7, 0), TurnCounts.UNKNOWN);
        due.is("10 orbit(-1, 0)", x.orbit(-1, 0), TurnCounts.UNKNOWN);
        due.is("10 orbit(7, 2)", x.orbit(7, 2), TurnCounts.UNKNOWN);
        due.is("10 orbit(0, 2)", x.orbit(0, 2), TurnCounts.OUTSIDE);
        due.is("10 orbit(0, -1)", x.orbit(0, -1), TurnCounts.OUTSIDE);
        for (int far : FAR) {
            due.is("10 orbit(" + far + ", 0)", x.orbit(far, 0), TurnCounts.UNKNOWN);
            due.is("10 orbit(0, " + far + ")", x.orbit(0, far), TurnCounts.OUTSIDE);
        }
        x.points(3);
        due.is("10 orbit(3, 0) of 3", x.orbit(3, 0), TurnCounts.UNKNOWN);
        due.is("10 orbit(2, 0) of 3", x.orbit(2, 0), 1);
        due.is("10 orbit(2, 1) of 3", x.orbit(2, 1), 1);
    }

    private static void sorts() {
        TurnCounts x = made(7, 2);
        x.beside(7, 4, 0);
        int[] patterns = {1, 8, 36, 120};
        int before = 2;
        for (int v = 1; v <= 4; v++) {
            due.is("11 sorts(" + v + ")", x.sorts(v), before);
            due.is("11 patterns", x.patterns(-1), patterns[v - 1]);
            before = v;
        }
        for (int v : new int[] {Integer.MIN_VALUE, -1, 0, 5, Integer.MAX_VALUE}) {
            due.is("11 sorts(" + v + ")", x.sorts(v), TurnCounts.OUTSIDE);
        }
        due.is("11 SORTS stays", x.count(2), 4);
        due.is("11 THE GROUP stays", x.count(1), 5040);
    }

    private static void weight() {
        TurnCounts x = new TurnCounts();
        due.is("12 weight(3, 9), no COLOUR in use", x.weight(3, 9), 3);
        due.is("12 weight(3, 0)", x.weight(3, 0), 9);
        due.is("12 weight(1, 5)", x.weight(1, 5), 1);
        due.is("12 pattern(1, 2)", x.pattern(1, 2), 5);
        due.is("12 weight(0, 9)", x.weight(0, 9), 0);
        due.is("12 pattern(1, 2) as it is then", x.pattern(1, 2), 32);
        due.is("12 weight(4, 0)", x.weight(4, 0), TurnCounts.UNKNOWN);
        due.is("12 weight(4, 10)", x.weight(4, 10), TurnCounts.UNKNOWN);
        due.is("12 weight(-1, -1)", x.weight(-1, -1), TurnCounts.UNKNOWN);
        due.is("12 weight(0, 10)", x.weight(0, 10), TurnCounts.OUTSIDE);
        due.is("12 weight(0, -1)", x.weight(0, -1), TurnCounts.OUTSIDE);
        for (int far : FAR) {
            due.is("12 weight(" + far + ", 0)", x.weight(far, 0), TurnCounts.UNKNOWN);
            due.is("12 weight(0, " + far + ")", x.weight(0, far), TurnCounts.OUTSIDE);
        }
        due.is("12 WEIGHT stays", x.count(10), 9);
    }

    private static void patterns() {
        TurnCounts x = made(6, 2);
        x.beside(6, 2, 0);
        due.is("13 patterns(-1)", x.patterns(-1), 13);
        int[] byWeight = {1, 1, 3, 3, 3, 1, 1, 0};
        for (int w = 0; w < byWeight.length; w++) {
            due.is("13 patterns(" + w + ")", x.patterns(w), byWeight[w]);
        }
        x.points(7);
        x.weight(1, 9);
        due.is("13 patterns(63)", x.patterns(63), 1);
        due.is("13 patterns(9)", x.patterns(9), 7);
        due.is("13 patterns(10)", x.patterns(10), 0);
        x.weight(0, 9);
        due.is("13 patterns(63), all of it", x.patterns(63), 128);
        for (int what : new int[] {Integer.MIN_VALUE, -2, 64, Integer.MAX_VALUE}) {
            due.is("13 patterns(" + what + ")", x.patterns(what), TurnCounts.OUTSIDE);
        }
        x.sorts(4);
        due.is("13 patterns(-1), the most", x.patterns(-1), 16384);
    }

    private static void pattern() {
        TurnCounts x = made(3, 3);
        x.beside(3, 4, 0);
        int[][] rows = {{0, 1, 0, 0, 1}, {1, 3, 1, 1, 2}, {2, 3, 2, 2, 2}, {4, 3, 2, 3, 2}, {5, 6, 3, 4, 3},
            {8, 3, 4, 5, 2}, {13, 1, 3, 6, 1}, {14, 3, 4, 7, 2}, {17, 3, 5, 8, 2}, {26, 1, 6, 9, 1}};
        for (int i = 0; i < rows.length; i++) {
            for (int what = 0; what <= 4; what++) {
                due.is("14 pattern(" + i + ", " + what + ")", x.pattern(i, what), rows[i][what]);
            }
        }
        for (int what = 0; what <= 4; what++) {
            for (int i : new int[] {Integer.MIN_VALUE, -1, 10, 27, 20000, Integer.MAX_VALUE}) {
                due.is("14 pattern(" + i + ", " + what + ")", x.pattern(i, what), TurnCounts.NONE);
            }
        }
        for (int what : new int[] {Integer.MIN_VALUE, -1, 5, Integer.MAX_VALUE}) {
            due.is("14 pattern(0, " + what + ")", x.pattern(0, what), TurnCounts.OUTSIDE);
            due.is("14 pattern(-1, " + what + ")", x.pattern(-1, what), TurnCounts.OUTSIDE);
        }
        x.points(7);
        x.sorts(4);
        due.is("14 the last of the most", x.pattern(16383, 0), 16383);
        due.is("14 behind the last of the most", x.pattern(16384, 0), TurnCounts.NONE);
    }

    /** TWIN goes by LEAST alone: where THE GROUP is not its own mirror, TWIN of TWIN may be a third one. */
    private static void patternTwins() {
        TurnCounts x = made(3, 3);
        x.beside(3, 1, 0);
        due.is("14 pattern(4, 0) of ROUND", x.pattern(4, 0), 5);
        due.is("14 pattern(4, 3) of ROUND", x.pattern(4, 3), 5);
        due.is("14 pattern(5, 3) of ROUND", x.pattern(5, 3), 4);
        x = made(3, 2);
        x.beside(2, 4, 0);
        // the PATTERNS: 000; 001; 010 100; 011 101; 110; 111
        int[] leasts = {0, 1, 2, 3, 6, 7};
        int[] twins = {0, 2, 2, 4, 3, 5};
        for (int i = 0; i < 6; i++) {
            due.is("14 pattern(" + i + ", 0) of two beside one", x.pattern(i, 0), leasts[i]);
            due.is("14 pattern(" + i + ", 3) of two beside one", x.pattern(i, 3), twins[i]);
        }
        due.is("16 kinds(0) of two beside one", x.kinds(0), 3);
    }

    private static void of() {
        TurnCounts x = made(4, 2);
        x.beside(4, 1, 0);
        int[] patternOf = {0, 1, 1, 2, 1, 3, 2, 4, 1, 2, 3, 4, 2, 4, 4, 5};
        int[] leasts = {0, 1, 3, 5, 7, 15};
        int[] keepers = {4, 1, 1, 2, 1, 4};
        int[] mirrored = {0, 8, 4, 12, 2, 10, 6, 14, 1, 9, 5, 13, 3, 11, 7, 15};
        for (int n = 0; n < 16; n++) {
            due.is("15 of(" + n + ", 0)", x.of(n, 0), patternOf[n]);
            due.is("15 of(" + n + ", 1)", x.of(n, 1), leasts[patternOf[n]]);
            due.is("15 of(" + n + ", 2)", x.of(n, 2), keepers[patternOf[n]]);
            due.is("15 of(" + n + ", 3)", x.of(n, 3), mirrored[n]);
        }
        for (int what = 0; what <= 3; what++) {
            for (int n : new int[] {Integer.MIN_VALUE, -1, 16, 16384, Integer.MAX_VALUE}) {
                due.is("15 of(" + n + ", " + what + ")", x.of(n, what), TurnCounts.OUTSIDE);
            }
        }
        for (int what : new int[] {Integer.MIN_VALUE, -1, 4, Integer.MAX_VALUE}) {
            due.is("15 of(0, " + what + ")", x.of(0, what), TurnCounts.OUTSIDE);
        }
        x.points(7);
        x.sorts(4);
        due.is("15 of(16383, 0)", x.of(16383, 0), 16383);
        due.is("15 of(16384, 0)", x.of(16384, 0), TurnCounts.OUTSIDE);
        due.is("15 of(1, 3)", x.of(1, 3), 4096);
        x.sorts(1);
        due.is("15 of(0, 3) of one COLOUR", x.of(0, 3), 0);
        due.is("15 of(1, 0) of one COLOUR", x.of(1, 0), TurnCounts.OUTSIDE);
    }

    private static void kinds() {
        TurnCounts x = made(6, 3);
        x.beside(6, 1, 0);
        // 130 necklaces and 92 bracelets: 38 pairs of TWINS
        due.is("16 patterns(-1)", x.patterns(-1), 130);
        due.is("16 kinds(0)", x.kinds(0), 76);
        due.is("16 kinds(1)", x.kinds(1), 130 - 3 * 14 + 3);
        due.is("16 kinds(2)", x.kinds(2), 3);
        due.is("16 kinds(3)", x.kinds(3), 6);
        x.points(6);
        due.is("16 kinds(0) of STILL", x.kinds(0), 729 - 27);
        due.is("16 kinds(2) of STILL", x.kinds(2), 729);
        due.is("16 kinds(3) of STILL", x.kinds(3), 1);
        x.points(2);
        due.is("16 kinds(1), COLOURS more than POINTS", x.kinds(1), 0);
        x.sorts(1);
        due.is("16 kinds(1) of one COLOUR", x.kinds(1), 1);
        for (int what : new int[] {Integer.MIN_VALUE, -1, 4, Integer.MAX_VALUE}) {
            due.is("16 kinds(" + what + ")", x.kinds(what), TurnCounts.OUTSIDE);
        }
    }

    private static void by() {
        TurnCounts x = made(4, 2);
        x.beside(4, 4, 0);
        // 1010 to 0011: POINTS 0, 2 go to 2, 3 and 1, 3 to 0, 1; the first such is 2 0 3 1
        int[] goals = {2, 0, 3, 1};
        for (int p = 0; p < 4; p++) {
            due.is("17 by(10, " + p + ")", x.by(10, p), goals[p]);
            due.is("17 by(3, " + p + "), LEAST itself", x.by(3, p), p);
        }
        x.beside(4, 1, 0);
        int[] round = {3, 0, 1, 2};
        for (int p = 0; p < 4; p++) {
            due.is("17 by(8, " + p + ") of ROUND", x.by(8, p), round[p]);
            due.is("17 by(10, " + p + ") of ROUND", x.by(10, p), (p + 1) % 4);
        }
        for (int far : new int[] {Integer.MIN_VALUE, -1, 16, Integer.MAX_VALUE}) {
            due.is("17 by(" + far + ", 0)", x.by(far, 0), TurnCounts.OUTSIDE);
            due.is("17 by(" + far + ", 4)", x.by(far, 4), TurnCounts.OUTSIDE);
        }
        for (int far : new int[] {Integer.MIN_VALUE, -1, 4, Integer.MAX_VALUE}) {
            due.is("17 by(0, " + far + ")", x.by(0, far), TurnCounts.UNKNOWN);
        }
    }

    private static void images() {
        TurnCounts x = made(6, 3);
        x.weight(2, 7);
        x.blocks(3, 1, 1);
        due.is("18 image(1)", x.image(1), 1);
        due.is("18 count(4)", x.count(4), 2);
        due.is("19 restore(0)", x.restore(0), TurnCounts.STATE);
        int patterns = x.patterns(-1);
        x.points(3);
        x.beside(3, 4, 0);
        x.sorts(2);
        x.weight(2, 1);
        tell(x, "102");
        due.is("18 image(0)", x.image(0), 1);
        due.is("18 count(4), both", x.count(4), 3);
        due.is("19 restore(1)", x.restore(1), 1);
        due.is("19 MANY", x.count(0), 6);
        due.is("19 TURNS", x.count(1), 18);
        due.is("19 SORTS", x.count(2), 3);
        due.is("19 THE PAD stays", x.count(3), 3);
        due.is("19 IMAGES stay", x.count(4), 3);
        due.is("19 WEIGHT", x.count(12), 7);
        due.is("19 patterns(-1)", x.patterns(-1), patterns);
        due.is("19 type(0, 0)", x.type(0, 0), 111111);
        isMember(x, "345012", 1);
        isMember(x, "102345", 0);
        tell(x, "102345");
        x.join();
        due.is("19 join() behind restore", x.count(1), 72);
        due.is("19 restore(1), the IMAGE stays", x.restore(1), 1);
        due.is("19 TURNS again", x.count(1), 18);
        due.is("18 image(0) in place of another", x.image(0), 1);
        x.points(1);
        x.restore(0);
        due.is("19 MANY of what took the place", x.count(0), 6);
        due.is("18 count(4) stays", x.count(4), 3);
        for (int k : new int[] {Integer.MIN_VALUE, -1, 2, 32, Integer.MAX_VALUE}) {
            due.is("18 image(" + k + ")", x.image(k), TurnCounts.OUTSIDE);
            due.is("19 restore(" + k + ")", x.restore(k), TurnCounts.OUTSIDE);
        }
    }

    private static void count() {
        TurnCounts x = made(5, 4);
        x.beside(5, 2, 0);
        x.weight(0, 6);
        x.say('!');
        x.image(0);
        int[] whats = {0, 1, 2, 3, 4, 10, 11, 12, 13};
        int[] wants = {5, 10, 4, 1, 1, 6, 1, 2, 3};
        for (int i = 0; i < whats.length; i++) {
            due.is("20 count(" + whats[i] + ")", x.count(whats[i]), wants[i]);
        }
        for (int what : new int[] {Integer.MIN_VALUE, -1, 5, 6, 7, 8, 9, 14, Integer.MAX_VALUE}) {
            due.is("20 count(" + what + ")", x.count(what), TurnCounts.OUTSIDE);
        }
    }

    /** Each call that changes things, between calls that ask for what was reckoned before it. */
    private static void asThingsAre() {
        TurnCounts x = made(6, 2);
        x.image(0);
        asked(x, "at first", 64, 1, 1, 1);
        x.beside(6, 4, 0);
        asked(x, "beside", 7, 11, 20, 5);
        x.image(1);
        x.blocks(2, 4, 0);
        asked(x, "blocks", 27, 4, 8, 1);
        x.restore(1);
        asked(x, "restore(1)", 7, 11, 20, 5);
        x.beside(6, 1, 0);
        asked(x, "beside, a smaller one", 14, 4, 6, 5);
        x.restore(0);
        asked(x, "restore(0)", 64, 1, 1, 1);
        tell(x, "123450");
        x.join();
        asked(x, "join()", 14, 4, 6, 5);
        x.points(6);
        asked(x, "points(6)", 64, 1, 1, 1);
        x.restore(1);
        due.is("by(32, 0) behind restore(1)", x.by(32, 0), 5);
        due.is("by(32, 1) behind restore(1)", x.by(32, 1), 0);
        due.is("type(10, 1) behind restore(1)", x.type(10, 1), 120);
        x.points(2);
        due.is("kinds(2) behind more PATTERNS", x.kinds(2), 4);
        x.points(7);
        x.beside(7, 4, 0);
        due.is("kinds(3) of ALL", x.kinds(3), 35);
        x.points(1);
        x.sorts(1);
        due.is("kinds(3) behind more PATTERNS", x.kinds(3), 1);
    }

    private static void asked(TurnCounts x, String behind, int patterns, int types, int most, int goal) {
        due.is("patterns(-1) behind " + behind, x.patterns(-1), patterns);
        due.is("type(-1, 0) behind " + behind, x.type(-1, 0), types);
        due.is("kinds(3) behind " + behind, x.kinds(3), most);
        due.is("by(16, 1) behind " + behind, x.by(16, 1), goal);
    }

    private static void refusedChangesNothing() {
        TurnCounts x = made(5, 3);
        x.beside(5, 1, 0);
        x.image(0);
        tell(x, "01");
        x.points(9);
        x.beside(6, 0, 0);
        x.blocks(2, 0, 0);
        x.join();
        x.say(0);
        x.sorts(7);
        x.weight(0, 11);
        x.weight(5, 1);
        x.image(3);
        x.restore(1);
        x.restore(9);
        int[] whats = {0, 1, 2, 3, 4, 10, 11, 12, 13};
        int[] wants = {5, 5, 3, 2, 1, 0, 1, 2, 3};
        for (int i = 0; i < whats.length; i++) {
            due.is("refused, then count(" + whats[i] + ")", x.count(whats[i]), wants[i]);
        }
        due.is("refused, then patterns(-1)", x.patterns(-1), 51);
        due.is("refused, then type(-1, 0)", x.type(-1, 0), 2);
    }
}
