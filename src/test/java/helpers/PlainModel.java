import java.util.ArrayDeque;
import java.util.ArrayList;
import java.util.Deque;
import java.util.List;
import java.util.TreeMap;
import java.util.regex.Matcher;
import java.util.regex.Pattern;

/**
 * The document once more, as near to its words as can be and without a thought for speed.
 * It shares no code and few ways with the class that it is compared with.
 */
final class PlainModel {
    static final int UNKNOWN = -1;
    static final int BAD_VALUE = -2;
    static final int FULL = -3;
    static final int NOT_POSSIBLE = -4;
    static final int NONE = -5;
    /** What is answered where going through all weighings would take too long. */
    static final int TOO_DEAR = Integer.MIN_VALUE;

    private static final int MOST_STEPS = 2_000_000;

    /** Sums that the table tells, by pairs "a b" with a not more than b, as a * 100 + b. */
    private record State(int things, TreeMap<Integer, Integer> told) {
        State copy() {
            return new State(things, new TreeMap<>(told));
        }
    }

    private State now = new State(2, new TreeMap<>());
    private State snapshot = null;
    private final Deque<State> history = new ArrayDeque<>();
    private String text = "";
    private int steps;

    // ---- helpers

    private static int key(int a, int b) {
        return Math.min(a, b) * 100 + Math.max(a, b);
    }

    private boolean is(int thing) {
        return 0 <= thing && thing < now.things;
    }

    private Integer plus(Integer a, Integer b) {
        if (a == null || b == null) {
            return null;
        }
        if (a == 0) {
            return b;
        }
        if (b == 0) {
            return a;
        }
        return now.told.get(key(a, b));
    }

    private void act(State next) {
        history.addLast(now.copy());
        if (history.size() > 4) {
            history.removeFirst();
        }
        now = next;
    }

    private static int orNone(Integer number) {
        return number == null ? NONE : number;
    }

    // ---- tables

    int take(int which, int size) {
        boolean fine = which == 0 && 1 <= size && size <= 11 || which == 1 && 1 <= size && size <= 3;
        if (!fine) {
            return BAD_VALUE;
        }
        List<Integer> meaning = new ArrayList<>();
        int last = which == 0 ? size : (1 << size) - 1;
        meaning.add(0);
        meaning.add(last);
        for (int i = 1; i < last; i++) {
            meaning.add(i);
        }
        State next = new State(last + 1, new TreeMap<>());
        for (int a = 1; a <= last; a++) {
            for (int b = a; b <= last; b++) {
                int x = meaning.get(a);
                int y = meaning.get(b);
                if (which == 0 ? x + y <= size : (x & y) == 0) {
                    next.told.put(key(a, b), meaning.indexOf(x + y));
                }
            }
        }
        act(next);
        return now.things;
    }

    int addThing() {
        if (now.things == 12) {
            return FULL;
        }
        act(new State(now.things + 1, new TreeMap<>(now.told)));
        return now.things - 1;
    }

    int removeThing(int thing) {
        if (!is(thing)) {
            return UNKNOWN;
        }
        if (thing < 2) {
            return NOT_POSSIBLE;
        }
        State next = new State(now.things - 1, new TreeMap<>());
        now.told.forEach((pair, sum) -> {
            int a = pair / 100;
            int b = pair % 100;
            if (a != thing && b != thing && sum != thing) {
                next.told.put(key(a > thing ? a - 1 : a, b > thing ? b - 1 : b), sum > thing ? sum - 1 : sum);
            }
        });
        act(next);
        return now.things;
    }

    int setSum(int one, int other, int sum) {
        if (!is(one) || !is(other) || !is(sum)) {
            return UNKNOWN;
        }
        if (one == 0 || other == 0) {
            return NOT_POSSIBLE;
        }
        Integer before = plus(one, other);
        if (before != null && before == sum) {
            return NONE;
        }
        State next = now.copy();
        next.told.put(key(one, other), sum);
        act(next);
        return before == null ? 12 : before;
    }

    int clearSum(int one, int other) {
        if (!is(one) || !is(other)) {
            return UNKNOWN;
        }
        if (one == 0 || other == 0) {
            return NOT_POSSIBLE;
        }
        Integer before = plus(one, other);
        if (before == null) {
            return NONE;
        }
        State next = now.copy();
        next.told.remove(key(one, other));
        act(next);
        return before;
    }

    private static final String THING = "(?:0|1[01]?|[2-9])";
    private static final String SUM = THING + "\\+" + THING + "(?:=" + THING + ")?";
    private static final Pattern ROW = Pattern.compile(SUM + "(?:," + SUM + ")*");

    /** The fault of the text, or -1: the first character with which no row can begin any more. */
    private int fault() {
        for (int i = 1; i <= text.length(); i++) {
            Matcher matcher = ROW.matcher(text.substring(0, i));
            if (!matcher.matches() && !matcher.hitEnd()) {
                return i - 1;
            }
        }
        return ROW.matcher(text).matches() ? -1 : text.length();
    }

    int readSums() {
        int fault = fault();
        if (fault >= 0) {
            return -100 - fault;
        }
        for (String number : text.split("[+=,]")) {
            if (!is(Integer.parseInt(number))) {
                return UNKNOWN;
            }
        }
        State next = now.copy();
        for (String sum : text.split(",")) {
            String[] sides = sum.split("=");
            String[] both = sides[0].split("\\+");
            int a = Integer.parseInt(both[0]);
            int b = Integer.parseInt(both[1]);
            if (a == 0 || b == 0) {
                return NOT_POSSIBLE;
            }
            if (sides.length == 1) {
                next.told.remove(key(a, b));
            } else {
                next.told.put(key(a, b), Integer.parseInt(sides[1]));
            }
        }
        act(next);
        return now.told.size();
    }

    int glue(int size) {
        if (size < 2 || size > 11) {
            return BAD_VALUE;
        }
        int things = now.things + size - 1;
        if (things > 12) {
            return FULL;
        }
        State next = new State(things, new TreeMap<>(now.told));
        for (int i = 1; i < size; i++) {
            for (int j = i; j < size; j++) {
                if (i + j < size) {
                    next.told.put(key(now.things + i - 1, now.things + j - 1), now.things + i + j - 1);
                }
                if (i + j == size) {
                    next.told.put(key(now.things + i - 1, now.things + j - 1), 1);
                }
            }
        }
        act(next);
        return now.things;
    }

    int twice() {
        if (now.things > 6) {
            return FULL;
        }
        List<List<Integer>> pairs = new ArrayList<>();
        pairs.add(List.of(0, 0));
        pairs.add(List.of(1, 1));
        for (int second = 0; second < 2; second++) {
            for (int thing = 0; thing < now.things; thing++) {
                if (!pairs.contains(List.of(thing, second))) {
                    pairs.add(List.of(thing, second));
                }
            }
        }
        State next = new State(pairs.size(), new TreeMap<>());
        for (int a = 1; a < pairs.size(); a++) {
            for (int b = a; b < pairs.size(); b++) {
                Integer first = plus(pairs.get(a).get(0), pairs.get(b).get(0));
                int second = pairs.get(a).get(1) + pairs.get(b).get(1);
                if (first != null && second < 2) {
                    next.told.put(key(a, b), pairs.indexOf(List.of(first, second)));
                }
            }
        }
        act(next);
        return now.things;
    }

    int swap(int one, int other) {
        if (!is(one) || !is(other)) {
            return UNKNOWN;
        }
        if (one < 2 || other < 2) {
            return NOT_POSSIBLE;
        }
        if (one == other) {
            return NONE;
        }
        State next = new State(now.things, new TreeMap<>());
        int touched = 0;
        for (int pair : now.told.keySet()) {
            List<Integer> named = List.of(pair / 100, pair % 100, now.told.get(pair));
            if (named.contains(one) || named.contains(other)) {
                touched++;
            }
            List<Integer> then = new ArrayList<>();
            for (int thing : named) {
                then.add(thing == one ? other : thing == other ? one : thing);
            }
            next.told.put(key(then.get(0), then.get(1)), then.get(2));
        }
        act(next);
        return touched;
    }

    // ---- texts and history

    int type(char character) {
        if (text.length() == 60) {
            return FULL;
        }
        text += character;
        return text.length();
    }

    int clearText() {
        int length = text.length();
        text = "";
        return length;
    }

    int undo() {
        if (history.isEmpty()) {
            return NONE;
        }
        now = history.removeLast();
        return history.size();
    }

    int keep() {
        snapshot = now.copy();
        return now.things;
    }

    int restore() {
        if (snapshot == null) {
            return NONE;
        }
        act(snapshot.copy());
        return now.things;
    }

    // ---- sums, told

    int sum(int one, int other) {
        return is(one) && is(other) ? orNone(plus(one, other)) : UNKNOWN;
    }

    int difference(int whole, int part) {
        return is(whole) && is(part) ? orNone(leastAddend(whole, part)) : UNKNOWN;
    }

    private Integer leastAddend(int whole, int part) {
        for (int c = 0; c < now.things; c++) {
            Integer sum = plus(part, c);
            if (sum != null && sum == whole) {
                return c;
            }
        }
        return null;
    }

    private boolean isPart(int part, int whole) {
        return leastAddend(whole, part) != null;
    }

    private List<int[]> breaks() {
        List<int[]> breaks = new ArrayList<>();
        for (int a = 0; a < now.things; a++) {
            for (int b = 0; b < now.things; b++) {
                for (int c = 0; c < now.things; c++) {
                    Integer sum = plus(a, plus(b, c));
                    if (sum != null && !sum.equals(plus(plus(a, b), c))) {
                        breaks.add(new int[] {0, a, b, c});
                    }
                }
            }
        }
        for (int a = 0; a < now.things; a++) {
            int rests = 0;
            for (int b = 0; b < now.things; b++) {
                rests += Integer.valueOf(1).equals(plus(a, b)) ? 1 : 0;
            }
            if (rests != 1) {
                breaks.add(new int[] {1, a, NONE, NONE});
            }
        }
        for (int a = 0; a < now.things; a++) {
            if (plus(a, 1) != null && a != 0) {
                breaks.add(new int[] {2, a, NONE, NONE});
            }
        }
        return breaks;
    }

    int broken(int what) {
        if (what < 0 || what > 3) {
            return BAD_VALUE;
        }
        List<int[]> breaks = breaks();
        return breaks.isEmpty() ? NONE : breaks.get(0)[what];
    }

    private boolean together(int a, int b) {
        for (int c = 0; c < now.things; c++) {
            for (int d = 0; d < now.things; d++) {
                for (int e = 0; e < now.things; e++) {
                    if (Integer.valueOf(a).equals(plus(c, d)) && Integer.valueOf(b).equals(plus(d, e))
                            && plus(a, e) != null && plus(c, b) != null) {
                        return true;
                    }
                }
            }
        }
        return false;
    }

    private boolean smallest(int thing, int among) {
        for (int part = 1; part < now.things; part++) {
            if (part != thing && (among >> part & 1) == 1 && isPart(part, thing)) {
                return false;
            }
        }
        return thing != 0;
    }

    private boolean sharp(int thing) {
        Integer rest = leastAddend(1, thing);
        if (rest == null) {
            return false;
        }
        for (int part = 1; part < now.things; part++) {
            if (isPart(part, thing) && isPart(part, rest)) {
                return false;
            }
        }
        return true;
    }

    private int times(int thing) {
        int times = 1;
        for (Integer sum = plus(thing, thing); sum != null && times < 20; sum = plus(sum, thing)) {
            times++;
        }
        return times;
    }

    private interface Test {
        boolean holds(int thing);
    }

    private int bits(Test test) {
        int bits = 0;
        for (int thing = 0; thing < now.things; thing++) {
            bits += test.holds(thing) ? 1 << thing : 0;
        }
        return bits;
    }

    int thing(int thing, int what) {
        if (!is(thing)) {
            return UNKNOWN;
        }
        return switch (what) {
            case 0 -> orNone(leastAddend(1, thing));
            case 1 -> bits(part -> isPart(part, thing));
            case 2 -> bits(whole -> isPart(thing, whole));
            case 3 -> smallest(thing, -1) ? 1 : 0;
            case 4 -> sharp(thing) ? 1 : 0;
            case 5 -> bits(other -> together(thing, other));
            case 6 -> bits(other -> plus(thing, other) != null);
            case 7 -> times(thing);
            default -> BAD_VALUE;
        };
    }

    int sumOf(int things) {
        List<Integer> set = new ArrayList<>();
        for (int thing = 0; thing < 32; thing++) {
            if ((things >> thing & 1) == 1) {
                if (!is(thing)) {
                    return UNKNOWN;
                }
                set.add(thing);
            }
        }
        if (set.isEmpty()) {
            return 0;
        }
        Integer sum = set.get(0);
        for (int i = 1; i < set.size(); i++) {
            sum = plus(sum, set.get(i));
        }
        return orNone(sum);
    }

    // ---- blocks

    private List<Integer> blocks() {
        boolean[][] fits = new boolean[now.things][now.things];
        for (int a = 0; a < now.things; a++) {
            for (int b = 0; b < now.things; b++) {
                fits[a][b] = together(a, b);
            }
        }
        List<Integer> blocks = new ArrayList<>();
        for (int set = 1; set < 1 << now.things; set++) {
            boolean all = true;
            boolean more = false;
            for (int a = 0; a < now.things; a++) {
                boolean fitsAll = true;
                for (int b = 0; b < now.things; b++) {
                    fitsAll &= (set >> b & 1) == 0 || fits[a][b];
                }
                if ((set >> a & 1) == 1) {
                    all &= fitsAll;
                } else {
                    more |= fitsAll;
                }
            }
            if (all && !more) {
                blocks.add(set);
            }
        }
        return blocks;
    }

    int block(int rank, int what) {
        if (rank < 0 || what < 0 || what > 1) {
            return BAD_VALUE;
        }
        List<Integer> blocks = blocks();
        if (rank >= blocks.size()) {
            return NONE;
        }
        int block = blocks.get(rank);
        return what == 0 ? block : bits(thing -> (block >> thing & 1) == 1 && smallest(thing, block));
    }

    // ---- weights

    /** Gathers up to so many weighings by k, in their order, at which a thing has a weight (or any, if it is -1). */
    private List<int[]> weighings(int k, int most, int thing, int weight) {
        List<int[]> found = new ArrayList<>();
        steps = 0;
        int[] weights = new int[now.things];
        weights[1] = k;
        boolean fits = thing < 0 || thing > 1 || weights[thing] == weight;
        if (fits && holds(weights, 1, k)) {
            weigh(weights, 2, k, most, thing, weight, found);
        }
        return steps > MOST_STEPS ? null : found;
    }

    private void weigh(int[] weights, int next, int k, int most, int thing, int weight, List<int[]> found) {
        if (found.size() >= most || steps++ > MOST_STEPS) {
            return;
        }
        if (next == now.things) {
            found.add(weights.clone());
            return;
        }
        for (int w = 0; w <= k; w++) {
            weights[next] = w;
            if ((next != thing || w == weight) && holds(weights, next, k)) {
                weigh(weights, next + 1, k, most, thing, weight, found);
            }
        }
    }

    private boolean holds(int[] weights, int last, int k) {
        for (int pair : now.told.keySet()) {
            int a = pair / 100;
            int b = pair % 100;
            int sum = now.told.get(pair);
            if (a <= last && b <= last) {
                int both = weights[a] + weights[b];
                if (sum <= last ? weights[sum] != both : both > k) {
                    return false;
                }
            }
        }
        return true;
    }

    int weighings(int k) {
        if (k < 1 || k > 6) {
            return BAD_VALUE;
        }
        List<int[]> found = weighings(k, 1000, -1, 0);
        return found == null ? TOO_DEAR : found.size();
    }

    private int weighingError(int k, int thing) {
        return k < 1 || k > 6 ? BAD_VALUE : is(thing) ? 0 : UNKNOWN;
    }

    int weight(int k, int thing) {
        if (weighingError(k, thing) != 0) {
            return weighingError(k, thing);
        }
        List<int[]> found = weighings(k, 1, -1, 0);
        return found == null ? TOO_DEAR : found.isEmpty() ? NONE : found.get(0)[thing];
    }

    int range(int k, int thing, boolean most) {
        if (weighingError(k, thing) != 0) {
            return weighingError(k, thing);
        }
        for (int i = 0; i <= k; i++) {
            int weight = most ? k - i : i;
            List<int[]> found = weighings(k, 1, thing, weight);
            if (found == null) {
                return TOO_DEAR;
            }
            if (!found.isEmpty()) {
                return weight;
            }
        }
        return NONE;
    }

    int count(int what) {
        return switch (what) {
            case 0 -> now.things;
            case 1 -> now.told.size();
            case 2 -> breaks().isEmpty() ? 1 : 0;
            case 3 -> blocks().size();
            case 4 -> bits(thing -> smallest(thing, -1));
            case 5 -> bits(this::sharp);
            case 6 -> pairsApart();
            case 7 -> breaks().size();
            case 8 -> history.size();
            case 9 -> text.length();
            default -> BAD_VALUE;
        };
    }

    private int pairsApart() {
        int pairs = 0;
        for (int a = 0; a < now.things; a++) {
            for (int b = 0; b < a; b++) {
                pairs += together(a, b) ? 0 : 1;
            }
        }
        return pairs;
    }
}
