/** Things counted up to turning; the words in capitals are those of the document. */
public final class TurnCounts {
    public static final int UNKNOWN = -1, OUTSIDE = -2, STATE = -3, FULL = -4, NO = -5, NONE = -6, FAULT = -7;

    private static final int MOST_POINTS = 7;
    private static final int MOST_SORTS = 4;
    private static final int MOST_WEIGHT = 9;
    private static final int MOST_WEIGHT_SUM = 63;
    private static final int MOST_TURNS = 5040;
    private static final int MOST_COLOURINGS = 16384;
    private static final int MOST_TYPES = 15;
    private static final int MOST_SIGNS = 7;
    private static final int IMAGES = 2;
    /** Each maker at least doubles THE GROUP, and 2 to the 13th is above 5040. */
    private static final int MOST_MAKERS = 12;
    /** No TURN of seven POINTS must be done more often than this till none is elsewhere. */
    private static final int MOST_TIMES = 12;

    private static final int ROUND = 1, FLIPPED = 2, EVEN = 3, ALL = 4;

    /** The TURN that brings none elsewhere: 0 1 2 3 4 5 6 as figures to the base 8. */
    private static final int STAYING = 42798;

    private final Setting now;
    private final Setting[] kept;
    private int keptSet;
    private final Pad pad;
    private final TypeTable types;
    private final PatternTable table;

    public TurnCounts() {
        now = new Setting();
        kept = new Setting[IMAGES];
        for (int k = 0; k < IMAGES; k++) {
            kept[k] = new Setting();
        }
        keptSet = 0;
        pad = new Pad();
        types = new TypeTable();
        table = new PatternTable();
    }

    // ---- 1 groups

    public int points(int v) {
        if (!isWithin(v, 1, MOST_POINTS)) {
            return OUTSIDE;
        }
        int before = now.many;
        now.many = v;
        now.group.makeStill();
        forgetGroup();
        return before;
    }

    public int beside(int a, int one, int other) {
        if (!isWithin(a, 0, now.many) || !isKind(one) || !isKind(other)) {
            return OUTSIDE;
        }
        now.group.makeStill();
        now.group.widenByKind(one, 0, a, 1);
        now.group.widenByKind(other, a, now.many - a, 1);
        forgetGroup();
        return now.group.size;
    }

    public int blocks(int a, int one, int other) {
        if (!isWithin(a, 1, now.many) || now.many % a != 0 || !isKind(one) || !isKind(other)) {
            return OUTSIDE;
        }
        int amount = now.many / a;
        now.group.makeStill();
        for (int block = 0; block < amount; block++) {
            now.group.widenByKind(one, block * a, a, 1);
        }
        now.group.widenByKind(other, 0, amount, a);
        forgetGroup();
        return now.group.size;
    }

    public int join() {
        int told = pad.toldTurn(now.many);
        if (told < 0) {
            return FAULT;
        }
        pad.length = 0;
        if (!now.group.has(told)) {
            now.group.widen(told);
            forgetGroup();
        }
        return now.group.size;
    }

    public int say(int sign) {
        if (!isWithin(sign, 33, 126)) {
            return OUTSIDE;
        }
        if (pad.length >= MOST_SIGNS) {
            return FULL;
        }
        pad.signs[pad.length] = sign;
        pad.length++;
        return pad.length;
    }

    public int wipe() {
        int before = pad.length;
        pad.length = 0;
        return before;
    }

    public int turn(int what) {
        if (!isWithin(what, 0, 2)) {
            return OUTSIDE;
        }
        int told = pad.toldTurn(now.many);
        if (told < 0) {
            return FAULT;
        }
        if (what == 0) {
            return now.group.has(told) ? 1 : 0;
        }
        return what == 1 ? Turns.typeOf(told, now.many) : Turns.timesTillStill(told);
    }

    public int type(int i, int what) {
        if (i < -1 || !isWithin(what, 0, 1)) {
            return OUTSIDE;
        }
        types.bringUp(now);
        if (i == -1) {
            return types.amount;
        }
        if (i >= types.amount) {
            return NONE;
        }
        return what == 0 ? types.figures[i] : types.turns[i];
    }

    public int orbit(int point, int what) {
        if (!isWithin(point, 0, now.many - 1)) {
            return UNKNOWN;
        }
        if (!isWithin(what, 0, 1)) {
            return OUTSIDE;
        }
        return what == 0 ? now.group.reachFrom(point) : now.group.holding(point);
    }

    // ---- 2 colours, patterns

    public int sorts(int v) {
        if (!isWithin(v, 1, MOST_SORTS)) {
            return OUTSIDE;
        }
        int before = now.sortCount;
        now.sortCount = v;
        table.upToDate = false;
        return before;
    }

    public int weight(int colour, int v) {
        if (!isWithin(colour, 0, MOST_SORTS - 1)) {
            return UNKNOWN;
        }
        if (!isWithin(v, 0, MOST_WEIGHT)) {
            return OUTSIDE;
        }
        int before = now.weights[colour];
        now.weights[colour] = v;
        return before;
    }

    public int patterns(int what) {
        if (!isWithin(what, -1, MOST_WEIGHT_SUM)) {
            return OUTSIDE;
        }
        table.bringUp(now);
        return what == -1 ? table.amount : table.amountOfWeight(what, now);
    }

    public int pattern(int i, int what) {
        if (!isWithin(what, 0, 4)) {
            return OUTSIDE;
        }
        table.bringUp(now);
        if (!isWithin(i, 0, table.amount - 1)) {
            return NONE;
        }
        int least = table.leastOf(i);
        switch (what) {
            case 0:
                return least;
            case 1:
                return table.sizeOf(i);
            case 2:
                return now.weightOf(least);
            case 3:
                return table.twinOf(i, now);
            default:
                return now.coloursOf(least);
        }
    }

    public int of(int number, int what) {
        if (!isNumber(number) || !isWithin(what, 0, 3)) {
            return OUTSIDE;
        }
        if (what == 3) {
            return now.mirrored(number);
        }
        table.bringUp(now);
        int i = table.patternOf(number);
        if (what == 0) {
            return i;
        }
        return what == 1 ? table.leastOf(i) : table.keepersOf(number, now.group);
    }

    public int kinds(int what) {
        if (!isWithin(what, 0, 3)) {
            return OUTSIDE;
        }
        table.bringUp(now);
        switch (what) {
            case 0:
                return table.amountHanded(now);
            case 1:
                return table.amountOfAllColours(now);
            case 2:
                return table.amountAlone();
            default:
                return table.greatestSize();
        }
    }

    public int by(int number, int point) {
        if (!isNumber(number)) {
            return OUTSIDE;
        }
        if (!isWithin(point, 0, now.many - 1)) {
            return UNKNOWN;
        }
        table.bringUp(now);
        return Turns.goal(table.firstToLeast(number, now.group), point);
    }

    // ---- 3 images

    public int image(int k) {
        if (!isWithin(k, 0, IMAGES - 1)) {
            return OUTSIDE;
        }
        kept[k].copyFrom(now);
        keptSet |= 1 << k;
        return 1;
    }

    public int restore(int k) {
        if (!isWithin(k, 0, IMAGES - 1)) {
            return OUTSIDE;
        }
        if ((keptSet >> k & 1) == 0) {
            return STATE;
        }
        now.copyFrom(kept[k]);
        forgetGroup();
        return 1;
    }

    public int count(int what) {
        switch (what) {
            case 0:
                return now.many;
            case 1:
                return now.group.size;
            case 2:
                return now.sortCount;
            case 3:
                return pad.length;
            case 4:
                return keptSet;
            default:
                return isWithin(what, 10, 9 + MOST_SORTS) ? now.weights[what - 10] : OUTSIDE;
        }
    }

    private static boolean isWithin(int v, int low, int high) {
        return v >= low && v <= high;
    }

    private static boolean isKind(int kind) {
        return isWithin(kind, 0, ALL);
    }

    private boolean isNumber(int number) {
        return isWithin(number, 0, now.colourings() - 1);
    }

    /** What was reckoned from THE GROUP must be reckoned anew when it is next asked for. */
    private void forgetGroup() {
        types.upToDate = false;
        table.upToDate = false;
    }

    /**
     * A TURN is one int: the POINTS to which 0 to 6 are brought, as figures to the base 8, that of POINT 0 highest,
     * so that of two ints the lower one is the first TURN. POINTS from MANY on are held as staying.
     */
    private static final class Turns {
        static int goal(int turn, int point) {
            return turn >> 3 * (MOST_POINTS - 1 - point) & 7;
        }

        static int withGoal(int turn, int point, int goal) {
            int place = 3 * (MOST_POINTS - 1 - point);
            return turn & ~(7 << place) | goal << place;
        }

        static int oneThenOther(int one, int other) {
            int both = 0;
            for (int point = 0; point < MOST_POINTS; point++) {
                both = both << 3 | goal(other, goal(one, point));
            }
            return both;
        }

        /** The place of a TURN among all of seven POINTS, 0 to 5039. */
        static int rank(int turn) {
            int rank = 0;
            int met = 0;
            for (int point = 0; point < MOST_POINTS; point++) {
                int goal = goal(turn, point);
                int lowerLeft = goal - Integer.bitCount(met & (1 << goal) - 1);
                rank = rank * (MOST_POINTS - point) + lowerLeft;
                met |= 1 << goal;
            }
            return rank;
        }

        static int typeOf(int turn, int many) {
            int tally = tallyCycles(turn, many);
            int figures = 0;
            for (int length = many; length >= 1; length--) {
                int cycles = tally >> 4 * length & 15;
                for (int i = 0; i < cycles; i++) {
                    figures = figures * 10 + length;
                }
            }
            return figures;
        }

        /** How many CYCLES have each length, four bits a length. */
        private static int tallyCycles(int turn, int many) {
            int tally = 0;
            int met = 0;
            for (int point = 0; point < many; point++) {
                int length = 0;
                int at = point;
                while ((met >> at & 1) == 0 && length < MOST_POINTS) {
                    met |= 1 << at;
                    at = goal(turn, at);
                    length++;
                }
                if (length > 0) {
                    tally += 1 << 4 * length;
                }
            }
            return tally;
        }

        static int timesTillStill(int turn) {
            int power = turn;
            int times = 1;
            while (power != STAYING && times < MOST_TIMES) {
                power = oneThenOther(power, turn);
                times++;
            }
            return times;
        }

        /** Of things that stand in a row from a POINT on, each goes one place on, the last one to the first place. */
        static int roundTurn(int from, int things, int width) {
            int turn = STAYING;
            for (int thing = 0; thing < things; thing++) {
                int next = thing + 1 < things ? thing + 1 : 0;
                turn = withThing(turn, from + thing * width, from + next * width, width);
            }
            return turn;
        }

        /** Things that stand in a row from a POINT on are put in the other order. */
        static int flipTurn(int from, int things, int width) {
            int turn = STAYING;
            for (int thing = 0; thing < things; thing++) {
                turn = withThing(turn, from + thing * width, from + (things - 1 - thing) * width, width);
            }
            return turn;
        }

        private static int withThing(int turn, int from, int to, int width) {
            int changed = turn;
            for (int i = 0; i < width; i++) {
                changed = withGoal(changed, from + i, to + i);
            }
            return changed;
        }
    }

    /** THE GROUP: all its TURNS in the order in which they were found, and some that make all others. */
    private static final class Group {
        final int[] turns;
        int size;
        final int[] makers;
        int makerCount;
        /** A bit for each rank of a TURN. */
        private final int[] members;

        Group() {
            turns = new int[MOST_TURNS];
            makers = new int[MOST_MAKERS];
            members = new int[(MOST_TURNS + 31) / 32];
            makeStill();
        }

        void makeStill() {
            for (int i = 0; i < members.length; i++) {
                members[i] = 0;
            }
            makerCount = 0;
            size = 0;
            add(STAYING);
        }

        /** Rows are copied whole: those of all groups are of one length. */
        void copyFrom(Group other) {
            System.arraycopy(other.turns, 0, turns, 0, turns.length);
            size = other.size;
            System.arraycopy(other.makers, 0, makers, 0, makers.length);
            makerCount = other.makerCount;
            System.arraycopy(other.members, 0, members, 0, members.length);
        }

        boolean has(int turn) {
            int rank = Turns.rank(turn);
            return isRank(rank) && (members[rank >> 5] >> (rank & 31) & 1) == 1;
        }

        private static boolean isRank(int rank) {
            return isWithin(rank, 0, MOST_TURNS - 1);
        }

        private void add(int turn) {
            int rank = Turns.rank(turn);
            if (size < turns.length && isRank(rank)) {
                members[rank >> 5] |= 1 << (rank & 31);
                turns[size] = turn;
                size++;
            }
        }

        /** Adds what makes a KIND of TURNS of things that stand in a row from a POINT on, each some POINTS wide. */
        void widenByKind(int kind, int from, int things, int width) {
            if (kind == ROUND || kind == FLIPPED || kind == ALL) {
                widen(Turns.roundTurn(from, things, width));
            }
            if (kind == FLIPPED) {
                widen(Turns.flipTurn(from, things, width));
            }
            if (kind == ALL && things >= 2) {
                widen(Turns.roundTurn(from, 2, width));
            }
            if (kind == EVEN && things >= 3) {
                // A round of an odd number of things is EVEN: of an even number, the first one is left out.
                int left = things % 2 == 0 ? 1 : 0;
                widen(Turns.roundTurn(from + left * width, things - left, width));
                widen(Turns.roundTurn(from, 3, width));
            }
        }

        /**
         * Adds a TURN and all that must be with it. What was there is a group, so what comes is copies of it, each
         * with one TURN behind: only the first TURN of each copy must be tried with the makers.
         */
        void widen(int turn) {
            if (has(turn) || makerCount >= makers.length) {
                return;
            }
            makers[makerCount] = turn;
            makerCount++;
            int part = size;
            addCopy(part, turn);
            for (int copy = 1; copy < MOST_TURNS && copy * part < size; copy++) {
                for (int m = 0; m < makerCount; m++) {
                    int next = Turns.oneThenOther(turns[copy * part], makers[m]);
                    if (!has(next)) {
                        addCopy(part, next);
                    }
                }
            }
        }

        private void addCopy(int part, int behind) {
            for (int i = 0; i < part; i++) {
                add(Turns.oneThenOther(turns[i], behind));
            }
        }

        int reachFrom(int point) {
            int reached = 0;
            for (int i = 0; i < size; i++) {
                reached |= 1 << Turns.goal(turns[i], point);
            }
            return Integer.bitCount(reached);
        }

        int holding(int point) {
            int amount = 0;
            for (int i = 0; i < size; i++) {
                if (Turns.goal(turns[i], point) == point) {
                    amount++;
                }
            }
            return amount;
        }
    }

    /** All that an IMAGE keeps. */
    private static final class Setting {
        int many;
        int sortCount;
        final int[] weights;
        final Group group;

        Setting() {
            many = 4;
            sortCount = 2;
            weights = new int[MOST_SORTS];
            for (int colour = 0; colour < MOST_SORTS; colour++) {
                weights[colour] = colour;
            }
            group = new Group();
        }

        void copyFrom(Setting other) {
            many = other.many;
            sortCount = other.sortCount;
            System.arraycopy(other.weights, 0, weights, 0, weights.length);
            group.copyFrom(other.group);
        }

        int colourings() {
            int amount = 1;
            for (int point = 0; point < many; point++) {
                amount *= sortCount;
            }
            return amount;
        }

        /** Whether figures can be read from a NUMBER: SORTS divides it, and each rest is a COLOUR that has a WEIGHT. */
        private boolean isReadable(int number) {
            return number >= 0 && isWithin(sortCount, 1, MOST_SORTS);
        }

        int mirrored(int number) {
            if (!isReadable(number)) {
                return 0;
            }
            int rest = number;
            int mirrored = 0;
            for (int point = 0; point < many; point++) {
                mirrored = mirrored * sortCount + rest % sortCount;
                rest /= sortCount;
            }
            return mirrored;
        }

        int weightOf(int number) {
            if (!isReadable(number)) {
                return 0;
            }
            int rest = number;
            int sum = 0;
            for (int point = 0; point < many; point++) {
                sum += weights[rest % sortCount];
                rest /= sortCount;
            }
            return sum;
        }

        int coloursOf(int number) {
            if (!isReadable(number)) {
                return 0;
            }
            int rest = number;
            int met = 0;
            for (int point = 0; point < many; point++) {
                met |= 1 << rest % sortCount;
                rest /= sortCount;
            }
            return Integer.bitCount(met);
        }
    }

    /** THE PAD. */
    private static final class Pad {
        final int[] signs;
        int length;

        Pad() {
            signs = new int[MOST_SIGNS];
            length = 0;
        }

        /** The TURN that the signs tell, FAULT if they tell none. */
        int toldTurn(int many) {
            if (length != many) {
                return FAULT;
            }
            int turn = STAYING;
            int met = 0;
            for (int point = 0; point < many; point++) {
                int goal = signs[point] - '0';
                if (goal < 0 || goal >= many || (met >> goal & 1) == 1) {
                    return FAULT;
                }
                met |= 1 << goal;
                turn = Turns.withGoal(turn, point, goal);
            }
            return turn;
        }
    }

    /** The TYPES that THE GROUP has, by falling numbers. */
    private static final class TypeTable {
        final int[] figures;
        final int[] turns;
        int amount;
        boolean upToDate;

        TypeTable() {
            figures = new int[MOST_TYPES];
            turns = new int[MOST_TYPES];
            amount = 0;
            upToDate = false;
        }

        void bringUp(Setting setting) {
            if (upToDate) {
                return;
            }
            amount = 0;
            for (int i = 0; i < setting.group.size; i++) {
                add(Turns.typeOf(setting.group.turns[i], setting.many));
            }
            upToDate = true;
        }

        private void add(int figuresOfOne) {
            int at = 0;
            while (at < amount && figures[at] > figuresOfOne) {
                at++;
            }
            if (at < amount && figures[at] == figuresOfOne) {
                turns[at]++;
            } else if (amount < MOST_TYPES) {
                insert(at, figuresOfOne);
            }
        }

        private void insert(int at, int figuresOfOne) {
            for (int i = amount; i > at; i--) {
                figures[i] = figures[i - 1];
                turns[i] = turns[i - 1];
            }
            figures[at] = figuresOfOne;
            turns[at] = 1;
            amount++;
        }
    }

    /** The PATTERNS, with their COLOURINGS one PATTERN behind the other, LEAST of each first. */
    private static final class PatternTable {
        private final int[] patternNumbers;
        private final int[] colourings;
        /** Where the COLOURINGS of each PATTERN start; behind the last PATTERN, where they end. */
        private final int[] starts;
        /** What a COLOUR that is one higher at a POINT adds to the NUMBER; a place for each figure to the base 8. */
        private final int[] places;
        private int many;
        private int sortCount;
        private int filled;
        int amount;
        boolean upToDate;

        PatternTable() {
            patternNumbers = new int[MOST_COLOURINGS];
            colourings = new int[MOST_COLOURINGS];
            starts = new int[MOST_COLOURINGS + 1];
            places = new int[8];
            many = 1;
            sortCount = 1;
            filled = 0;
            amount = 0;
            upToDate = false;
        }

        void bringUp(Setting setting) {
            if (upToDate) {
                return;
            }
            setPlaces(setting);
            int total = Math.min(setting.colourings(), MOST_COLOURINGS);
            for (int number = 0; number < total; number++) {
                patternNumbers[number] = NONE;
            }
            filled = 0;
            amount = 0;
            starts[0] = 0;
            for (int number = 0; number < total; number++) {
                if (patternNumbers[number] == NONE) {
                    gather(number, setting.group);
                }
            }
            upToDate = true;
        }

        private void setPlaces(Setting setting) {
            many = Math.min(setting.many, MOST_POINTS);
            sortCount = setting.sortCount;
            int place = 1;
            for (int point = many - 1; point >= 0; point--) {
                places[point] = place;
                place *= sortCount;
            }
        }

        /** A PATTERN more, found by its LEAST: all NUMBERS below are of PATTERNS already. */
        private void gather(int least, Group group) {
            if (amount >= MOST_COLOURINGS) {
                return;
            }
            int start = filled;
            put(least);
            for (int at = start; at < filled && at < MOST_COLOURINGS; at++) {
                for (int m = 0; m < group.makerCount; m++) {
                    put(turned(colourings[at], group.makers[m]));
                }
            }
            amount++;
            starts[amount] = filled;
        }

        /** A COLOURING more of the newest PATTERN, if it is of none yet. */
        private void put(int number) {
            if (isWithin(number, 0, MOST_COLOURINGS - 1) && patternNumbers[number] == NONE && filled < MOST_COLOURINGS) {
                patternNumbers[number] = amount;
                colourings[filled] = number;
                filled++;
            }
        }

        int patternOf(int number) {
            return isWithin(number, 0, MOST_COLOURINGS - 1) ? patternNumbers[number] : NONE;
        }

        private int turned(int number, int turn) {
            if (sortCount < 1) {
                return NONE;
            }
            int rest = number;
            int made = 0;
            for (int point = many - 1; point >= 0; point--) {
                made += rest % sortCount * places[Turns.goal(turn, point)];
                rest /= sortCount;
            }
            return made;
        }

        int leastOf(int i) {
            int start = isWithin(i, 0, amount - 1) ? starts[i] : NONE;
            return isWithin(start, 0, MOST_COLOURINGS - 1) ? colourings[start] : NONE;
        }

        int sizeOf(int i) {
            return isWithin(i, 0, amount - 1) ? starts[i + 1] - starts[i] : 0;
        }

        int twinOf(int i, Setting setting) {
            return patternOf(setting.mirrored(leastOf(i)));
        }

        /** How many TURNS make a COLOURING of itself: as many make it each other one of its PATTERN. */
        int keepersOf(int number, Group group) {
            int size = sizeOf(patternOf(number));
            return size < 1 ? 0 : group.size / size;
        }

        int firstToLeast(int number, Group group) {
            int least = leastOf(patternOf(number));
            int first = NONE;
            for (int i = 0; i < group.size; i++) {
                int turn = group.turns[i];
                if ((first == NONE || turn < first) && turned(number, turn) == least) {
                    first = turn;
                }
            }
            return first;
        }

        int amountOfWeight(int weight, Setting setting) {
            int found = 0;
            for (int i = 0; i < amount; i++) {
                if (setting.weightOf(leastOf(i)) == weight) {
                    found++;
                }
            }
            return found;
        }

        int amountHanded(Setting setting) {
            int found = 0;
            for (int i = 0; i < amount; i++) {
                if (twinOf(i, setting) != i) {
                    found++;
                }
            }
            return found;
        }

        int amountOfAllColours(Setting setting) {
            int found = 0;
            for (int i = 0; i < amount; i++) {
                if (setting.coloursOf(leastOf(i)) == setting.sortCount) {
                    found++;
                }
            }
            return found;
        }

        int amountAlone() {
            int found = 0;
            for (int i = 0; i < amount; i++) {
                if (sizeOf(i) == 1) {
                    found++;
                }
            }
            return found;
        }

        int greatestSize() {
            int greatest = 0;
            for (int i = 0; i < amount; i++) {
                greatest = Math.max(greatest, sizeOf(i));
            }
            return greatest;
        }
    }
}
