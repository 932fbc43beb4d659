import java.util.ArrayList;
import java.util.Arrays;
import java.util.HashSet;
import java.util.List;
import java.util.Set;
import java.util.TreeMap;
import java.util.TreeSet;

/** The document's words taken one by one, without any thought for speed: what TurnCounts is held against. */
final class NaiveTurnCounts {
    private int many = 4;
    private int sorts = 2;
    private int[] weights = {0, 1, 2, 3};
    /** TURNS in the order of the POINTS to which they bring POINTS 0, 1, and so on. */
    private List<int[]> group = new ArrayList<>();
    private String pad = "";
    private final Object[][] images = new Object[2][];
    private List<TreeSet<Integer>> patterns = null;
    private int[] patternOf = null;

    NaiveTurnCounts() {
        group.add(identity(many));
    }

    int points(int v) {
        if (v < 1 || v > 7) return -2;
        int was = many;
        many = v;
        group = new ArrayList<>();
        group.add(identity(many));
        patterns = null;
        return was;
    }

    int beside(int a, int one, int other) {
        if (a < 0 || a > many || one < 0 || one > 4 || other < 0 || other > 4) return -2;
        List<int[]> made = new ArrayList<>();
        for (int[] p : turnsOfKind(one, a)) {
            for (int[] q : turnsOfKind(other, many - a)) {
                int[] t = new int[many];
                for (int i = 0; i < many; i++) t[i] = i < a ? p[i] : a + q[i - a];
                made.add(t);
            }
        }
        return setGroup(made);
    }

    int blocks(int a, int one, int other) {
        if (a < 1 || a > many || many % a != 0 || one < 0 || one > 4 || other < 0 || other > 4) return -2;
        List<int[]> within = new ArrayList<>();
        within.add(identity(many));
        for (int b = 0; b < many / a; b++) {
            List<int[]> more = new ArrayList<>();
            for (int[] t : within) {
                for (int[] p : turnsOfKind(one, a)) {
                    int[] u = t.clone();
                    for (int i = 0; i < a; i++) u[b * a + i] = b * a + p[i];
                    more.add(u);
                }
            }
            within = more;
        }
        List<int[]> made = new ArrayList<>();
        for (int[] t : within) {
            for (int[] q : turnsOfKind(other, many / a)) {
                int[] wholes = new int[many];
                for (int i = 0; i < many; i++) wholes[i] = q[i / a] * a + i % a;
                made.add(then(t, wholes));
            }
        }
        return setGroup(made);
    }

    int join() {
        int[] told = told();
        if (told == null) return -7;
        pad = "";
        for (int[] t : group) if (Arrays.equals(t, told)) return group.size();
        List<int[]> makers = new ArrayList<>(group);
        makers.add(told);
        List<int[]> made = new ArrayList<>();
        Set<Integer> met = new HashSet<>();
        made.add(identity(many));
        met.add(key(made.get(0)));
        for (int at = 0; at < made.size(); at++) {
            for (int[] m : makers) {
                int[] next = then(made.get(at), m);
                if (met.add(key(next))) made.add(next);
            }
        }
        return setGroup(made);
    }

    int say(int sign) {
        if (sign < 33 || sign > 126) return -2;
        if (pad.length() == 7) return -4;
        pad += (char) sign;
        return pad.length();
    }

    int wipe() {
        int had = pad.length();
        pad = "";
        return had;
    }

    int turn(int what) {
        if (what < 0 || what > 2) return -2;
        int[] told = told();
        if (told == null) return -7;
        if (what == 0) {
            for (int[] t : group) if (Arrays.equals(t, told)) return 1;
            return 0;
        }
        if (what == 1) return typeOf(told);
        int[] power = told;
        int times = 1;
        while (!Arrays.equals(power, identity(many))) {
            power = then(power, told);
            times++;
        }
        return times;
    }

    int type(int i, int what) {
        if (i < -1 || what < 0 || what > 1) return -2;
        TreeMap<Integer, Integer> tally = new TreeMap<>();
        for (int[] t : group) tally.merge(typeOf(t), 1, Integer::sum);
        if (i == -1) return tally.size();
        if (i >= tally.size()) return -6;
        int type = new ArrayList<>(tally.descendingKeySet()).get(i);
        return what == 0 ? type : tally.get(type);
    }

    int orbit(int point, int what) {
        if (point < 0 || point >= many) return -1;
        if (what < 0 || what > 1) return -2;
        Set<Integer> reached = new HashSet<>();
        int held = 0;
        for (int[] t : group) {
            reached.add(t[point]);
            if (t[point] == point) held++;
        }
        return what == 0 ? reached.size() : held;
    }

    int sorts(int v) {
        if (v < 1 || v > 4) return -2;
        int was = sorts;
        sorts = v;
        patterns = null;
        return was;
    }

    int weight(int colour, int v) {
        if (colour < 0 || colour > 3) return -1;
        if (v < 0 || v > 9) return -2;
        int was = weights[colour];
        weights[colour] = v;
        return was;
    }

    int patterns(int what) {
        if (what < -1 || what > 63) return -2;
        int found = 0;
        for (TreeSet<Integer> p : allPatterns()) {
            if (what == -1 || weightOf(p.last()) == what) found++;
        }
        return found;
    }

    int pattern(int i, int what) {
        if (what < 0 || what > 4) return -2;
        if (i < 0 || i >= allPatterns().size()) return -6;
        TreeSet<Integer> p = allPatterns().get(i);
        if (what == 0) return p.first();
        if (what == 1) return p.size();
        if (what == 2) return weightOf(p.last());
        if (what == 3) return patternOf[mirrored(p.first())];
        return coloursOf(p.last());
    }

    int of(int number, int what) {
        if (number < 0 || number >= total() || what < 0 || what > 3) return -2;
        allPatterns();
        if (what == 0) return patternOf[number];
        if (what == 1) return patterns.get(patternOf[number]).first();
        if (what == 3) return mirrored(number);
        int keepers = 0;
        for (int[] t : group) if (turned(number, t) == number) keepers++;
        return keepers;
    }

    int kinds(int what) {
        if (what < 0 || what > 3) return -2;
        int handed = 0;
        int full = 0;
        int alone = 0;
        int most = 0;
        for (TreeSet<Integer> p : allPatterns()) {
            if (!p.contains(mirrored(p.first()))) handed++;
            if (coloursOf(p.first()) == sorts) full++;
            if (p.size() == 1) alone++;
            most = Math.max(most, p.size());
        }
        return new int[] {handed, full, alone, most}[what];
    }

    int by(int number, int point) {
        if (number < 0 || number >= total()) return -2;
        if (point < 0 || point >= many) return -1;
        allPatterns();
        for (int[] t : group) {
            if (turned(number, t) == patterns.get(patternOf[number]).first()) return t[point];
        }
        throw new IllegalStateException("no TURN makes LEAST");
    }

    int image(int k) {
        if (k < 0 || k > 1) return -2;
        images[k] = new Object[] {many, sorts, weights.clone(), new ArrayList<>(group)};
        return 1;
    }

    @SuppressWarnings("unchecked")
    int restore(int k) {
        if (k < 0 || k > 1) return -2;
        if (images[k] == null) return -3;
        many = (Integer) images[k][0];
        sorts = (Integer) images[k][1];
        weights = ((int[]) images[k][2]).clone();
        group = new ArrayList<>((List<int[]>) images[k][3]);
        patterns = null;
        return 1;
    }

    int count(int what) {
        if (what == 0) return many;
        if (what == 1) return group.size();
        if (what == 2) return sorts;
        if (what == 3) return pad.length();
        if (what == 4) return (images[0] == null ? 0 : 1) + (images[1] == null ? 0 : 2);
        return what >= 10 && what <= 13 ? weights[what - 10] : -2;
    }

    private static int[] identity(int n) {
        int[] t = new int[n];
        for (int i = 0; i < n; i++) t[i] = i;
        return t;
    }

    private static int[] then(int[] first, int[] second) {
        int[] t = new int[first.length];
        for (int i = 0; i < t.length; i++) t[i] = second[first[i]];
        return t;
    }

    private static int key(int[] t) {
        int key = 0;
        for (int p : t) key = key * 10 + p;
        return key;
    }

    private int setGroup(List<int[]> made) {
        TreeMap<Integer, int[]> sorted = new TreeMap<>();
        for (int[] t : made) sorted.put(key(t), t);
        group = new ArrayList<>(sorted.values());
        patterns = null;
        return group.size();
    }

    private static List<int[]> turnsOfKind(int kind, int n) {
        List<int[]> found = new ArrayList<>();
        for (int[] t : allTurns(n)) if (isOfKind(kind, t)) found.add(t);
        return found;
    }

    private static List<int[]> allTurns(int n) {
        List<int[]> all = new ArrayList<>();
        all.add(new int[0]);
        for (int length = 0; length < n; length++) {
            List<int[]> longer = new ArrayList<>();
            for (int[] t : all) {
                for (int next = 0; next < n; next++) {
                    boolean free = true;
                    for (int p : t) free &= p != next;
                    if (!free) continue;
                    int[] u = Arrays.copyOf(t, length + 1);
                    u[length] = next;
                    longer.add(u);
                }
            }
            all = longer;
        }
        return all;
    }

    private static boolean isOfKind(int kind, int[] t) {
        int n = t.length;
        if (kind == 0) return Arrays.equals(t, identity(n));
        if (kind == 3) {
            int changed = 0;
            for (int i = 0; i < n; i++) for (int j = i + 1; j < n; j++) if (t[i] > t[j]) changed++;
            return changed % 2 == 0;
        }
        if (kind == 4 || n == 0) return true;
        for (int k = 0; k < n; k++) {
            boolean round = true;
            boolean flipped = kind == 2;
            for (int i = 0; i < n; i++) {
                round &= t[i] == (i + k) % n;
                flipped &= t[i] == (n - 1 - i + k) % n;
            }
            if (round || flipped) return true;
        }
        return false;
    }

    private int[] told() {
        if (pad.length() != many) return null;
        int[] t = new int[many];
        Set<Integer> met = new HashSet<>();
        for (int i = 0; i < many; i++) {
            int at = "0123456".substring(0, many).indexOf(pad.charAt(i));
            if (at < 0 || !met.add(at)) return null;
            t[i] = at;
        }
        return t;
    }

    private int typeOf(int[] t) {
        List<Integer> lengths = new ArrayList<>();
        for (int i = 0; i < many; i++) {
            int least = i;
            int length = 1;
            for (int at = t[i]; at != i; at = t[at]) {
                least = Math.min(least, at);
                length++;
            }
            if (least == i) lengths.add(-length);
        }
        lengths.sort(null);
        int type = 0;
        for (int l : lengths) type = type * 10 - l;
        return type;
    }

    private int total() {
        return (int) Math.round(Math.pow(sorts, many));
    }

    private int[] figures(int number) {
        int[] c = new int[many];
        for (int p = many - 1, n = number; p >= 0; p--, n /= sorts) c[p] = n % sorts;
        return c;
    }

    private int numberOf(int[] colours) {
        int n = 0;
        for (int c : colours) n = n * sorts + c;
        return n;
    }

    private int turned(int number, int[] t) {
        int[] was = figures(number);
        int[] is = new int[many];
        for (int p = 0; p < many; p++) is[t[p]] = was[p];
        return numberOf(is);
    }

    private int mirrored(int number) {
        int[] was = figures(number);
        int[] is = new int[many];
        for (int p = 0; p < many; p++) is[p] = was[many - 1 - p];
        return numberOf(is);
    }

    private int weightOf(int number) {
        int sum = 0;
        for (int c : figures(number)) sum += weights[c];
        return sum;
    }

    private int coloursOf(int number) {
        Set<Integer> met = new HashSet<>();
        for (int c : figures(number)) met.add(c);
        return met.size();
    }

    private List<TreeSet<Integer>> allPatterns() {
        if (patterns != null) return patterns;
        patterns = new ArrayList<>();
        patternOf = new int[total()];
        Arrays.fill(patternOf, -1);
        for (int n = 0; n < total(); n++) {
            if (patternOf[n] >= 0) continue;
            TreeSet<Integer> one = new TreeSet<>();
            for (int[] t : group) one.add(turned(n, t));
            for (int member : one) patternOf[member] = patterns.size();
            patterns.add(one);
        }
        return patterns;
    }
}
