/** Things that can be added to one another only sometimes: the document's object. */
public final class SometimesSums {
    public static final int UNKNOWN = -1;
    public static final int BAD_VALUE = -2;
    public static final int FULL = -3;
    public static final int NOT_POSSIBLE = -4;
    public static final int NONE = -5;

    private static final int NOTHING = 0;
    private static final int WHOLE = 1;
    private static final int MOST_THINGS = 12;
    // The document tells a missing sum by 12, so the table does, too.
    private static final int NO_SUM = 12;

    private static final int CHAIN = 0;
    private static final int SETS = 1;
    private static final int LONGEST_CHAIN = 11;
    private static final int MOST_SIGNS = 3;

    private static final int MOST_TIMES = 20;
    private static final int MOST_STATES = 4;
    private static final int FIRST_FAULT = -100;
    private static final int HEAVIEST_WHOLE = 6;
    private static final int MOST_WAYS = 1000;

    private final Table table;
    private final Table snapshot;
    private boolean snapshotTaken;
    private final History history;
    private final Text text;
    private final Laws laws;
    private final Relations relations;
    private final Weights weights;
    private final int[] newNumbers;

    public SometimesSums() {
        table = new Table();
        snapshot = new Table();
        snapshotTaken = false;
        history = new History();
        text = new Text();
        laws = new Laws();
        relations = new Relations();
        weights = new Weights();
        newNumbers = new int[MOST_THINGS];
    }

    // ---- tables

    public int take(int which, int size) {
        if (which != CHAIN && which != SETS) {
            return BAD_VALUE;
        }
        int largest = which == CHAIN ? LONGEST_CHAIN : MOST_SIGNS;
        if (size < 1 || size > largest) {
            return BAD_VALUE;
        }
        history.remember(table);
        if (which == CHAIN) {
            table.empty(2);
            table.addChain(size);
        } else {
            table.fillWithSets(size);
        }
        return table.size;
    }

    public int addThing() {
        if (table.size >= MOST_THINGS) {
            return FULL;
        }
        history.remember(table);
        table.widen(1);
        return table.size - 1;
    }

    public int removeThing(int thing) {
        if (!table.has(thing)) {
            return UNKNOWN;
        }
        if (isNothingOrWhole(thing)) {
            return NOT_POSSIBLE;
        }
        Table before = history.remember(table);
        for (int old = 0; old < MOST_THINGS; old++) {
            newNumbers[old] = old < thing ? old : old - 1;
        }
        newNumbers[thing] = Table.GONE;
        table.empty(before.size - 1);
        table.addRenumbered(before, newNumbers);
        return table.size;
    }

    public int setSum(int one, int other, int sum) {
        if (!table.has(one) || !table.has(other) || !table.has(sum)) {
            return UNKNOWN;
        }
        if (one == NOTHING || other == NOTHING) {
            return NOT_POSSIBLE;
        }
        int before = table.at(one, other);
        if (before == sum) {
            return NONE;
        }
        history.remember(table);
        table.put(one, other, sum);
        return before;
    }

    public int clearSum(int one, int other) {
        if (!table.has(one) || !table.has(other)) {
            return UNKNOWN;
        }
        if (one == NOTHING || other == NOTHING) {
            return NOT_POSSIBLE;
        }
        int before = table.at(one, other);
        if (before == NO_SUM) {
            return NONE;
        }
        history.remember(table);
        table.put(one, other, NO_SUM);
        return before;
    }

    public int readSums() {
        int fault = text.read();
        if (fault != Text.NO_FAULT) {
            return FIRST_FAULT - fault;
        }
        if (text.greatestThing() >= table.size) {
            return UNKNOWN;
        }
        if (text.addsNothing()) {
            return NOT_POSSIBLE;
        }
        history.remember(table);
        text.putSums(table);
        return table.pairsWithSum();
    }

    public int glue(int size) {
        if (size < 2 || size > LONGEST_CHAIN) {
            return BAD_VALUE;
        }
        if (table.size + size - 1 > MOST_THINGS) {
            return FULL;
        }
        history.remember(table);
        table.addChain(size);
        return table.size;
    }

    public int twice() {
        if (2 * table.size > MOST_THINGS) {
            return FULL;
        }
        Table before = history.remember(table);
        table.fillWithPairs(before);
        return table.size;
    }

    public int swap(int one, int other) {
        if (!table.has(one) || !table.has(other)) {
            return UNKNOWN;
        }
        if (isNothingOrWhole(one) || isNothingOrWhole(other)) {
            return NOT_POSSIBLE;
        }
        if (one == other) {
            return NONE;
        }
        Table before = history.remember(table);
        for (int old = 0; old < MOST_THINGS; old++) {
            newNumbers[old] = old;
        }
        newNumbers[one] = other;
        newNumbers[other] = one;
        table.empty(before.size);
        table.addRenumbered(before, newNumbers);
        return table.pairsNaming(one, other);
    }

    // ---- texts

    public int type(char character) {
        return text.append(character) ? text.length : FULL;
    }

    public int clearText() {
        int before = text.length;
        text.length = 0;
        return before;
    }

    // ---- history

    public int undo() {
        return history.bringBack(table) ? history.length : NONE;
    }

    public int keep() {
        snapshot.become(table);
        snapshotTaken = true;
        return table.size;
    }

    public int restore() {
        if (!snapshotTaken) {
            return NONE;
        }
        history.remember(table);
        table.become(snapshot);
        return table.size;
    }

    // ---- sums, told

    public int sum(int one, int other) {
        if (!table.has(one) || !table.has(other)) {
            return UNKNOWN;
        }
        return thingOrNone(table.at(one, other));
    }

    public int difference(int whole, int part) {
        if (!table.has(whole) || !table.has(part)) {
            return UNKNOWN;
        }
        return thingOrNone(table.leastAddend(part, whole));
    }

    public int broken(int what) {
        if (what < 0 || what > 3) {
            return BAD_VALUE;
        }
        laws.check(table);
        boolean tellsOfThree = laws.firstLaw == Laws.REGROUPING;
        if (laws.breaks == 0 || (what >= 2 && !tellsOfThree)) {
            return NONE;
        }
        switch (what) {
            case 0:
                return laws.firstLaw;
            case 1:
                return laws.firstA;
            case 2:
                return laws.firstB;
            default:
                return laws.firstC;
        }
    }

    public int thing(int thing, int what) {
        if (!table.has(thing)) {
            return UNKNOWN;
        }
        relations.find(table);
        switch (what) {
            case 0:
                return thingOrNone(table.rest(thing));
            case 1:
                return relations.parts[thing];
            case 2:
                return relations.wholes[thing];
            case 3:
                return relations.isSmallestPart(thing) ? 1 : 0;
            case 4:
                return relations.isSharp(thing) ? 1 : 0;
            case 5:
                return relations.together[thing];
            case 6:
                return table.addends(thing);
            case 7:
                return timesAddable(thing);
            default:
                return BAD_VALUE;
        }
    }

    public int sumOf(int things) {
        if (things >>> table.size != 0) {
            return UNKNOWN;
        }
        int total = NOTHING;
        for (int thing = 0; thing < table.size && total != NO_SUM; thing++) {
            if ((things & bit(thing)) != 0) {
                total = table.at(total, thing);
            }
        }
        return thingOrNone(total);
    }

    // ---- blocks

    public int block(int rank, int what) {
        if (rank < 0 || what < 0 || what > 1) {
            return BAD_VALUE;
        }
        relations.find(table);
        int block = relations.blockAt(rank);
        if (block == Relations.NO_BLOCK) {
            return NONE;
        }
        return what == 0 ? block : relations.smallestPartsWithin(block);
    }

    // ---- weights

    public int weighings(int k) {
        if (!isWholeWeight(k)) {
            return BAD_VALUE;
        }
        weights.find(table, k);
        return weights.ways;
    }

    public int weight(int k, int thing) {
        int error = weighingError(k, thing);
        return error < 0 ? error : weights.first[thing];
    }

    public int range(int k, int thing, boolean most) {
        int error = weighingError(k, thing);
        if (error < 0) {
            return error;
        }
        return most ? weights.most[thing] : weights.least[thing];
    }

    public int count(int what) {
        switch (what) {
            case 0:
                return table.size;
            case 1:
                return table.pairsWithSum();
            case 2:
                laws.check(table);
                return laws.breaks == 0 ? 1 : 0;
            case 3:
                relations.find(table);
                return relations.blocks();
            case 4:
                relations.find(table);
                return relations.smallestParts();
            case 5:
                relations.find(table);
                return relations.sharpThings();
            case 6:
                relations.find(table);
                return relations.pairsApart();
            case 7:
                laws.check(table);
                return laws.breaks;
            case 8:
                return history.length;
            case 9:
                return text.length;
            default:
                return BAD_VALUE;
        }
    }

    // ---- helpers

    private static int bit(int thing) {
        return 1 << thing;
    }

    private static boolean isNothingOrWhole(int thing) {
        return thing == NOTHING || thing == WHOLE;
    }

    private static int thingOrNone(int sum) {
        return sum == NO_SUM ? NONE : sum;
    }

    private static boolean isWholeWeight(int k) {
        return k >= 1 && k <= HEAVIEST_WHOLE;
    }

    /** Finds the weighings by k, unless there is an error to tell; 0 if there is none. */
    private int weighingError(int k, int thing) {
        if (!isWholeWeight(k)) {
            return BAD_VALUE;
        }
        if (!table.has(thing)) {
            return UNKNOWN;
        }
        weights.find(table, k);
        return weights.ways == 0 ? NONE : 0;
    }

    private int timesAddable(int thing) {
        int total = thing;
        for (int times = 1; times < MOST_TIMES; times++) {
            total = table.at(total, thing);
            if (total == NO_SUM) {
                return times;
            }
        }
        return MOST_TIMES;
    }

    /** A state: how many things there are, and the sums of any two of them. */
    private static final class Table {
        static final int GONE = -1;

        int size;
        // Both orders of a pair stand here, and the sums with 0, too;
        // all that is beyond the size stays without a sum.
        private final int[] sums;

        Table() {
            sums = new int[MOST_THINGS * MOST_THINGS];
            empty(2);
        }

        boolean has(int thing) {
            return thing >= 0 && thing < size;
        }

        int at(int one, int other) {
            return has(one) && has(other) ? sums[one * MOST_THINGS + other] : NO_SUM;
        }

        boolean hasSum(int one, int other) {
            return at(one, other) != NO_SUM;
        }

        void put(int one, int other, int sum) {
            if (has(one) && has(other) && (has(sum) || sum == NO_SUM)) {
                sums[one * MOST_THINGS + other] = sum;
                sums[other * MOST_THINGS + one] = sum;
            }
        }

        void empty(int things) {
            for (int i = 0; i < sums.length; i++) {
                sums[i] = NO_SUM;
            }
            size = 0;
            widen(things);
        }

        void widen(int more) {
            for (int i = 0; i < more && size < MOST_THINGS; i++) {
                size++;
                put(NOTHING, size - 1, size - 1);
            }
        }

        void become(Table other) {
            size = other.size;
            System.arraycopy(other.sums, 0, sums, 0, sums.length);
        }

        /** Adds the sums of another table, but for those in which a thing is that is gone. */
        void addRenumbered(Table from, int[] newNumbers) {
            for (int one = 1; one < from.size; one++) {
                for (int other = one; other < from.size; other++) {
                    int sum = from.at(one, other);
                    if (sum != NO_SUM && newNumbers[sum] != GONE) {
                        put(newNumbers[one], newNumbers[other], newNumbers[sum]);
                    }
                }
            }
        }

        /** Adds a chain's things between nothing and the whole behind those that there are. */
        void addChain(int length) {
            int before = size - 1;
            widen(length - 1);
            for (int i = 1; i < length; i++) {
                for (int j = i; i + j <= length; j++) {
                    int sum = i + j == length ? WHOLE : before + i + j;
                    put(before + i, before + j, sum);
                }
            }
        }

        void fillWithSets(int signs) {
            int all = (1 << signs) - 1;
            empty(all + 1);
            for (int one = 1; one <= all; one++) {
                for (int other = one; other <= all; other++) {
                    if ((one & other) == 0) {
                        put(thingOfSet(one, all), thingOfSet(other, all), thingOfSet(one | other, all));
                    }
                }
            }
        }

        /** Not for the set of no sign: its sums are those with 0, which are there already. */
        private static int thingOfSet(int set, int all) {
            return set == all ? WHOLE : set + 1;
        }

        void fillWithPairs(Table from) {
            int half = from.size;
            empty(2 * half);
            for (int one = 0; one < half; one++) {
                for (int other = 0; other < half; other++) {
                    int sum = from.at(one, other);
                    if (sum != NO_SUM) {
                        put(pairWith0(one), pairWith0(other), pairWith0(sum));
                        put(pairWith0(one), pairWith1(other, half), pairWith1(sum, half));
                    }
                }
            }
        }

        private static int pairWith0(int thing) {
            return thing == NOTHING ? NOTHING : thing + 1;
        }

        private static int pairWith1(int thing, int half) {
            if (thing == WHOLE) {
                return WHOLE;
            }
            return thing == NOTHING ? half + 1 : half + thing;
        }

        int leastAddend(int part, int whole) {
            for (int addend = 0; addend < size; addend++) {
                if (at(part, addend) == whole) {
                    return addend;
                }
            }
            return NO_SUM;
        }

        int rest(int thing) {
            return leastAddend(thing, WHOLE);
        }

        int addends(int thing) {
            int set = 0;
            for (int other = 0; other < size; other++) {
                if (hasSum(thing, other)) {
                    set |= bit(other);
                }
            }
            return set;
        }

        int pairsWithSum() {
            int pairs = 0;
            for (int one = 1; one < size; one++) {
                for (int other = one; other < size; other++) {
                    if (hasSum(one, other)) {
                        pairs++;
                    }
                }
            }
            return pairs;
        }

        int pairsNaming(int first, int second) {
            int wanted = bit(first) | bit(second);
            int pairs = 0;
            for (int one = 1; one < size; one++) {
                for (int other = one; other < size; other++) {
                    int sum = at(one, other);
                    if (sum != NO_SUM && ((bit(one) | bit(other) | bit(sum)) & wanted) != 0) {
                        pairs++;
                    }
                }
            }
            return pairs;
        }
    }

    /** The states that undo() can bring back, the oldest one first. */
    private static final class History {
        int length;
        private final Table[] states;

        History() {
            states = new Table[MOST_STATES];
            for (int i = 0; i < MOST_STATES; i++) {
                states[i] = new Table();
            }
        }

        /** Answers the copy that it made, from which an act can build the next state. */
        Table remember(Table table) {
            if (length == MOST_STATES) {
                dropOldest();
            }
            Table copy = states[length];
            copy.become(table);
            length++;
            return copy;
        }

        private void dropOldest() {
            // The dropped table is used again, so that no act makes a new one.
            Table oldest = states[0];
            for (int i = 1; i < MOST_STATES; i++) {
                states[i - 1] = states[i];
            }
            states[MOST_STATES - 1] = oldest;
            length = MOST_STATES - 1;
        }

        boolean bringBack(Table table) {
            if (length == 0) {
                return false;
            }
            length--;
            table.become(states[length]);
            return true;
        }
    }

    /** The text, and the sums that were read from it. */
    private static final class Text {
        static final int NO_FAULT = -1;
        private static final int NO_THING = -1;
        private static final int LONGEST = 60;
        // A sum has at least three characters and a "," behind it.
        private static final int MOST_SUMS = (LONGEST + 1) / 4;

        int length;
        private final char[] characters;
        private int position;
        private int told;
        private final int[] ones;
        private final int[] others;
        private final int[] sums;

        Text() {
            characters = new char[LONGEST];
            ones = new int[MOST_SUMS];
            others = new int[MOST_SUMS];
            sums = new int[MOST_SUMS];
        }

        boolean append(char character) {
            if (length >= LONGEST) {
                return false;
            }
            characters[length] = character;
            length++;
            return true;
        }

        /** Reads the row of sums; answers the fault, or NO_FAULT. */
        int read() {
            position = 0;
            told = 0;
            for (int i = 0; i < MOST_SUMS; i++) {
                if (!readSum()) {
                    return position;
                }
                if (position == length) {
                    return NO_FAULT;
                }
                if (!skip(',')) {
                    return position;
                }
            }
            return position;
        }

        private boolean readSum() {
            int one = readThing();
            if (one == NO_THING || !skip('+')) {
                return false;
            }
            int other = readThing();
            if (other == NO_THING) {
                return false;
            }
            int sum = NO_SUM;
            if (skip('=')) {
                sum = readThing();
            }
            if (sum == NO_THING || told >= MOST_SUMS) {
                return false;
            }
            ones[told] = one;
            others[told] = other;
            sums[told] = sum;
            told++;
            return true;
        }

        /** Where there is no thing, the position stays at the character that is not allowed. */
        private int readThing() {
            int first = digit();
            if (first == NO_THING) {
                return NO_THING;
            }
            position++;
            int second = digit();
            // Only 10 and 11 have two digits; what else has is a fault at the second one.
            if (first != 1 || (second != 0 && second != 1)) {
                return first;
            }
            position++;
            return 10 + second;
        }

        private int digit() {
            if (position >= length) {
                return NO_THING;
            }
            char here = characters[position];
            return here >= '0' && here <= '9' ? here - '0' : NO_THING;
        }

        private boolean skip(char wanted) {
            if (position >= length || characters[position] != wanted) {
                return false;
            }
            position++;
            return true;
        }

        int greatestThing() {
            int greatest = 0;
            for (int i = 0; i < told; i++) {
                greatest = Math.max(greatest, Math.max(ones[i], others[i]));
                if (sums[i] != NO_SUM) {
                    greatest = Math.max(greatest, sums[i]);
                }
            }
            return greatest;
        }

        boolean addsNothing() {
            for (int i = 0; i < told; i++) {
                if (ones[i] == NOTHING || others[i] == NOTHING) {
                    return true;
                }
            }
            return false;
        }

        void putSums(Table table) {
            for (int i = 0; i < told; i++) {
                table.put(ones[i], others[i], sums[i]);
            }
        }
    }

    /** Where the laws are broken: how often, and where first. */
    private static final class Laws {
        static final int REGROUPING = 0;
        private static final int ONE_REST = 1;
        private static final int NOTHING_BEYOND_WHOLE = 2;

        int breaks;
        int firstLaw;
        int firstA;
        int firstB;
        int firstC;

        /** Goes by law, a, b and c, so that the first break that is noted is the first one. */
        void check(Table table) {
            breaks = 0;
            for (int a = 0; a < table.size; a++) {
                for (int b = 0; b < table.size; b++) {
                    checkRegrouping(table, a, b);
                }
            }
            for (int a = 0; a < table.size; a++) {
                if (rests(table, a) != 1) {
                    note(ONE_REST, a, 0, 0);
                }
            }
            for (int a = 1; a < table.size; a++) {
                if (table.hasSum(a, WHOLE)) {
                    note(NOTHING_BEYOND_WHOLE, a, 0, 0);
                }
            }
        }

        private void checkRegrouping(Table table, int a, int b) {
            for (int c = 0; c < table.size; c++) {
                int late = table.at(a, table.at(b, c));
                int early = table.at(table.at(a, b), c);
                if (late != NO_SUM && early != late) {
                    note(REGROUPING, a, b, c);
                }
            }
        }

        private static int rests(Table table, int a) {
            int rests = 0;
            for (int b = 0; b < table.size; b++) {
                if (table.at(a, b) == WHOLE) {
                    rests++;
                }
            }
            return rests;
        }

        private void note(int law, int a, int b, int c) {
            if (breaks == 0) {
                firstLaw = law;
                firstA = a;
                firstB = b;
                firstC = c;
            }
            breaks++;
        }
    }

    /** Which things are parts of which, which go together, and what follows from this. */
    private static final class Relations {
        static final int NO_BLOCK = 0;

        final int[] parts;
        final int[] wholes;
        final int[] together;
        private final int[] rests;
        private int size;

        Relations() {
            parts = new int[MOST_THINGS];
            wholes = new int[MOST_THINGS];
            together = new int[MOST_THINGS];
            rests = new int[MOST_THINGS];
        }

        void find(Table table) {
            size = table.size;
            for (int thing = 0; thing < size; thing++) {
                parts[thing] = 0;
                wholes[thing] = 0;
                together[thing] = 0;
                rests[thing] = table.rest(thing);
            }
            for (int one = 0; one < size; one++) {
                for (int other = 0; other < size; other++) {
                    int sum = table.at(one, other);
                    if (sum != NO_SUM) {
                        parts[sum] |= bit(one);
                        wholes[one] |= bit(sum);
                        findTogether(table, sum, one, other);
                    }
                }
            }
        }

        /** Finds what goes together with a thing by its being the sum of c and d. */
        private void findTogether(Table table, int thing, int c, int d) {
            for (int e = 0; e < size; e++) {
                int fellow = table.at(d, e);
                if (fellow != NO_SUM && table.hasSum(thing, e) && table.hasSum(c, fellow)) {
                    together[thing] |= bit(fellow);
                }
            }
        }

        boolean isSmallestPart(int thing) {
            return thing != NOTHING && hasNoPartIn(thing, -1);
        }

        /** Whether no other thing of a set, but 0, is a part of the thing. */
        private boolean hasNoPartIn(int thing, int set) {
            return (parts[thing] & set & ~bit(thing) & ~bit(NOTHING)) == 0;
        }

        boolean isSharp(int thing) {
            int rest = rests[thing];
            return rest != NO_SUM && (parts[thing] & parts[rest]) == bit(NOTHING);
        }

        int smallestParts() {
            int set = 0;
            for (int thing = 0; thing < size; thing++) {
                if (isSmallestPart(thing)) {
                    set |= bit(thing);
                }
            }
            return set;
        }

        int smallestPartsWithin(int block) {
            int set = 0;
            for (int thing = 1; thing < size; thing++) {
                if ((block & bit(thing)) != 0 && hasNoPartIn(thing, block)) {
                    set |= bit(thing);
                }
            }
            return set;
        }

        int sharpThings() {
            int set = 0;
            for (int thing = 0; thing < size; thing++) {
                if (isSharp(thing)) {
                    set |= bit(thing);
                }
            }
            return set;
        }

        int pairsApart() {
            int pairs = 0;
            for (int one = 0; one < size; one++) {
                for (int other = one + 1; other < size; other++) {
                    if ((together[one] & bit(other)) == 0) {
                        pairs++;
                    }
                }
            }
            return pairs;
        }

        int blocks() {
            int blocks = 0;
            for (int set = 1; set < bit(size); set++) {
                if (isBlock(set)) {
                    blocks++;
                }
            }
            return blocks;
        }

        int blockAt(int rank) {
            int before = 0;
            for (int set = 1; set < bit(size); set++) {
                if (isBlock(set)) {
                    if (before == rank) {
                        return set;
                    }
                    before++;
                }
            }
            return NO_BLOCK;
        }

        /** A set is a block just if it is all that goes together with each thing of it. */
        private boolean isBlock(int set) {
            int common = -1;
            for (int thing = 0; thing < size; thing++) {
                if ((set & bit(thing)) != 0) {
                    common &= together[thing];
                }
            }
            return common == set;
        }
    }

    /**
     * The weighings by k: how many there are, the first one, and the ranges.
     * Things that no sum ties to one another are weighed apart, group by group:
     * their weighings multiply, and would be far too many to be gone through together.
     */
    private static final class Weights {
        private static final int MOST_PAIRS = MOST_THINGS * (MOST_THINGS - 1) / 2;
        private static final int LEVELS = MOST_THINGS;
        private static final int NO_GROUP = -1;
        private static final int NO_THING = -1;
        // Each round but the last one narrows at least one of 12 ranges of at most 7 weights.
        private static final int MOST_ROUNDS = 100;

        int ways;
        final int[] first;
        final int[] least;
        final int[] most;

        private int size;
        private int pairs;
        private final int[] ones;
        private final int[] others;
        private final int[] sums;
        // For each level of the search, the range in which each thing's weight still is.
        private final int[] lows;
        private final int[] highs;
        private final int[] groups;
        private int waysOfGroup;

        Weights() {
            first = new int[MOST_THINGS];
            least = new int[MOST_THINGS];
            most = new int[MOST_THINGS];
            ones = new int[MOST_PAIRS];
            others = new int[MOST_PAIRS];
            sums = new int[MOST_PAIRS];
            lows = new int[LEVELS * MOST_THINGS];
            highs = new int[LEVELS * MOST_THINGS];
            groups = new int[MOST_THINGS];
        }

        void find(Table table, int k) {
            size = table.size;
            gatherPairs(table);
            setFirstRanges(k);
            ways = narrow(0) ? 1 : 0;
            if (ways == 0) {
                return;
            }
            formGroups();
            for (int thing = 0; thing < size; thing++) {
                startRange(thing, k);
            }
            for (int group = 0; group < size && ways > 0; group++) {
                if (groups[group] == group) {
                    waysOfGroup = 0;
                    weigh(group, 0);
                    ways = Math.min(MOST_WAYS, ways * Math.min(MOST_WAYS, waysOfGroup));
                }
            }
        }

        private void gatherPairs(Table table) {
            pairs = 0;
            for (int one = 1; one < size; one++) {
                for (int other = one; other < size; other++) {
                    int sum = table.at(one, other);
                    if (sum != NO_SUM && pairs < MOST_PAIRS) {
                        ones[pairs] = one;
                        others[pairs] = other;
                        sums[pairs] = sum;
                        pairs++;
                    }
                }
            }
        }

        private void setFirstRanges(int k) {
            for (int thing = 0; thing < size; thing++) {
                lows[thing] = 0;
                highs[thing] = k;
            }
            highs[NOTHING] = 0;
            lows[WHOLE] = k;
            // What leaves a thing the same weighs nothing: narrowing would not see this.
            for (int i = 0; i < pairs; i++) {
                if (sums[i] == ones[i]) {
                    highs[others[i]] = 0;
                }
                if (sums[i] == others[i]) {
                    highs[ones[i]] = 0;
                }
            }
        }

        /** Narrows the ranges of a level by all sums; false if one of them is empty then. */
        private boolean narrow(int level) {
            int start = level * MOST_THINGS;
            for (int thing = 0; thing < size; thing++) {
                if (isEmpty(start + thing)) {
                    return false;
                }
            }
            boolean changed = true;
            for (int round = 0; round < MOST_ROUNDS && changed; round++) {
                changed = false;
                for (int i = 0; i < pairs; i++) {
                    int one = start + ones[i];
                    int other = start + others[i];
                    int sum = start + sums[i];
                    if (narrowBySum(one, other, sum)) {
                        changed = true;
                    }
                    if (isEmpty(one) || isEmpty(other) || isEmpty(sum)) {
                        return false;
                    }
                }
            }
            return true;
        }

        private boolean narrowBySum(int one, int other, int sum) {
            boolean changed = limit(sum, lows[one] + lows[other], highs[one] + highs[other]);
            if (limit(one, lows[sum] - highs[other], highs[sum] - lows[other])) {
                changed = true;
            }
            if (limit(other, lows[sum] - highs[one], highs[sum] - lows[one])) {
                changed = true;
            }
            if (one == other && limit(one, (lows[sum] + 1) / 2, highs[sum] / 2)) {
                changed = true;
            }
            return changed;
        }

        private boolean limit(int place, int low, int high) {
            boolean changed = false;
            if (lows[place] < low) {
                lows[place] = low;
                changed = true;
            }
            if (highs[place] > high) {
                highs[place] = high;
                changed = true;
            }
            return changed;
        }

        private boolean isEmpty(int place) {
            return lows[place] > highs[place];
        }

        private boolean isOpen(int place) {
            return lows[place] < highs[place];
        }

        /** A group bears the number of its least thing; a thing whose weight is sure has none. */
        private void formGroups() {
            for (int thing = 0; thing < size; thing++) {
                groups[thing] = isOpen(thing) ? thing : NO_GROUP;
            }
            for (int i = 0; i < pairs; i++) {
                joinGroups(groups[ones[i]], groups[others[i]]);
                joinGroups(groups[ones[i]], groups[sums[i]]);
                joinGroups(groups[others[i]], groups[sums[i]]);
            }
        }

        private void joinGroups(int one, int other) {
            if (one == NO_GROUP || other == NO_GROUP) {
                return;
            }
            for (int thing = 0; thing < size; thing++) {
                if (groups[thing] == one || groups[thing] == other) {
                    groups[thing] = Math.min(one, other);
                }
            }
        }

        private void startRange(int thing, int k) {
            boolean sure = groups[thing] == NO_GROUP;
            first[thing] = lows[thing];
            least[thing] = sure ? lows[thing] : k;
            most[thing] = sure ? lows[thing] : 0;
        }

        /** Goes through all weighings of a group, the first one first. */
        private void weigh(int group, int level) {
            int thing = firstOpenThing(group, level);
            if (thing == NO_THING) {
                noteWeighing(group, level);
                return;
            }
            int place = level * MOST_THINGS + thing;
            for (int weight = lows[place]; weight <= highs[place]; weight++) {
                weighWith(group, level, thing, weight);
            }
        }

        /** Goes through those weighings of a group that give a thing a weight. */
        private void weighWith(int group, int level, int thing, int weight) {
            int next = level + 1;
            if (next >= LEVELS) {
                return;
            }
            copyRanges(level);
            lows[next * MOST_THINGS + thing] = weight;
            highs[next * MOST_THINGS + thing] = weight;
            if (narrow(next)) {
                weigh(group, next);
            }
        }

        private int firstOpenThing(int group, int level) {
            for (int thing = 0; thing < size; thing++) {
                if (groups[thing] == group && isOpen(level * MOST_THINGS + thing)) {
                    return thing;
                }
            }
            return NO_THING;
        }

        private void copyRanges(int level) {
            int from = level * MOST_THINGS;
            System.arraycopy(lows, from, lows, from + MOST_THINGS, MOST_THINGS);
            System.arraycopy(highs, from, highs, from + MOST_THINGS, MOST_THINGS);
        }

        private void noteWeighing(int group, int level) {
            for (int thing = 0; thing < size; thing++) {
                if (groups[thing] == group) {
                    int weight = lows[level * MOST_THINGS + thing];
                    if (waysOfGroup == 0) {
                        first[thing] = weight;
                    }
                    least[thing] = Math.min(least[thing], weight);
                    most[thing] = Math.max(most[thing], weight);
                }
            }
            waysOfGroup++;
        }
    }
}
