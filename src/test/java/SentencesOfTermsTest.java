/** The document's terms, sentence by sentence: at least one test for each, with the edges that it names. */
public final class SentencesOfTermsTest {
    private static final int UNKNOWN = -1;
    private static final int BAD_VALUE = -2;
    private static final int FULL = -3;
    private static final int NOT_POSSIBLE = -4;
    private static final int NONE = -5;
    private static final String THINGS = "THINGS AND SUMS";
    private static final String LAWS = "LAWS";
    private static final String TOGETHER = "GOING TOGETHER";
    private static final String WEIGHTS = "WEIGHTS";
    private static final String BUILT_IN = "TABLES THAT ARE BUILT IN";
    private static final String TEXTS = "TEXTS";
    private static final String HISTORY = "HISTORY";
    private static final String ERRORS = "ERRORS";

    private SentencesOfTermsTest() {
    }

    public static void main(String[] args) {
        calls();
        thingsAndSums();
        laws();
        goingTogether();
        weights();
        builtIn();
        texts();
        faults();
        history();
        errors();
        orderOfChecks();
        aroundThePromises();
        Doc.isAllNamed(THINGS, LAWS, TOGETHER, WEIGHTS, BUILT_IN, TEXTS, HISTORY, ERRORS);
        Due.end();
    }

    private static void calls() {
        Doc.says("What it is", "An object is used for at most 512 calls after it has been made");
        SometimesSums x = new SometimesSums();
        for (int call = 1; call < 512; call += 2) {
            Due.is("call " + call, x.addThing(), 2);
            Due.is("call " + (call + 1), x.undo(), 0);
        }
        SometimesSums y = new SometimesSums();
        for (int call = 1; call < 512; call++) {
            y.type('2');
        }
        Due.is("the 512th call", y.clearText(), 60);
        Doc.demandsNothing("What it is", "what later calls answer is free.");
        // LANGUAGE.md's rule 7 still binds: a later call may answer what it likes, but throws nothing.
        for (int call = 513; call < 2000; call++) {
            y.addThing();
            y.type('2');
            y.readSums();
        }
    }

    /** What the promises below tell in full, and what the document leaves free. */
    private static void aroundThePromises() {
        Doc.demandsNothing("What it is", "Things that can be added to one another only sometimes: ");
        String[] parts = {
            "tables of sums,", "the laws that they have to keep and the first place where one is broken,",
            "parts and differences,", "rests up to the whole,", "how often a thing can be added to itself,",
            "smallest parts,", "things that go together,", "blocks of them,", "weights that add up,", "sharp things,",
            "tables that are built in,", "glued together, multiplied and turned,",
            "sums that are read from texts with the places of faults,", "undo and a snapshot.",
        };
        for (String part : parts) {
            Doc.demandsNothing("What it is", part);
        }
        String free = "Not promised";
        Doc.demandsNothing(free, "How the state is held inside the object is free, as are the speed of each call, "
            + "the text of toString and the behaviour of equals and hashCode.");
        Doc.demandsNothing(free, "Use of one object from several threads at once is not promised to be safe.");
        Doc.demandsNothing(free, "Nothing is promised beyond the answers and state changes described above, "
            + "and nothing about an object after its 512th call.");
        Doc.isAllNamed("What it is", "The public face", free);
    }

    // ---- THINGS AND SUMS

    private static void thingsAndSums() {
        fewestAndMostThings();
        sumsOfTwoThings();
        sumsWithNothing();
        Doc.says(THINGS, "At first there are the things 0 and 1, and no other sum.");
        SometimesSums first = new SometimesSums();
        Due.is("the thing 1 is there", first.sum(1, 0), 1);
        Due.is("the thing 2 is not", first.sum(2, 0), UNKNOWN);
        Runs.hasJust(first);
        Due.is("1 + 1", first.sum(1, 1), NONE);
        partsAndDifferences();
    }

    private static void fewestAndMostThings() {
        Doc.says(THINGS, "There are 2 to 12 things, numbered from 0;");
        SometimesSums x = Runs.withThings(3);
        Due.is("removing one of three", x.removeThing(2), 2);
        Due.is("removing the whole", x.removeThing(1), NOT_POSSIBLE);
        Due.is("removing nothing", x.removeThing(0), NOT_POSSIBLE);
        Due.is("two are left", x.count(0), 2);
        for (int things = 2; things <= 12; things++) {
            SometimesSums y = Runs.withThings(things);
            Due.is("no thing -1 of " + things, y.sum(0, -1), UNKNOWN);
            Due.is("the last thing of " + things, y.sum(0, things - 1), things - 1);
            Due.is("no thing " + things, y.sum(0, things), UNKNOWN);
        }
        SometimesSums full = Runs.withThings(12);
        Due.is("a thing more", full.addThing(), FULL);
        Due.is("a chain more", full.glue(2), FULL);
        Due.is("twice as many", full.twice(), FULL);
        Due.is("there are twelve", full.count(0), 12);
        Doc.says(THINGS, "the thing 0 is nothing, the thing 1 is the whole.");
        Due.is("nothing and the whole are the whole", full.sum(0, 1), 1);
        Due.is("what 0 weighs", full.weight(6, 0), 0);
        Due.is("what 1 weighs", full.weight(6, 1), 6);
        Due.is("the rest of 0", full.thing(0, 0), 1);
        Due.is("the rest of 1", full.thing(1, 0), 0);
    }

    private static void sumsOfTwoThings() {
        Doc.says(THINGS, "Two things (also a thing and itself) have a sum, which is a thing, or none;");
        SometimesSums x = Runs.withThings(12);
        int[][] sums = {{2, 2, 3}, {2, 3, 2}, {2, 4, 4}, {3, 3, 3}, {3, 4, 0}, {1, 1, 1}, {1, 4, 0}, {1, 11, 11}, {11, 11, 11}, {4, 11, 1}};
        for (int[] sum : sums) {
            Due.is(sum[0] + " and " + sum[1] + " have none", x.sum(sum[0], sum[1]), NONE);
            x.setSum(sum[0], sum[1], sum[2]);
            Due.is(sum[0] + " + " + sum[1], x.sum(sum[0], sum[1]), sum[2]);
        }
        Due.is("a sum each", x.count(1), sums.length);
        Doc.says(THINGS, "the sum of a and b is that of b and a, too.");
        SometimesSums y = Runs.withThings(4);
        y.setSum(2, 3, 1);
        Due.is("2 + 3 is set: 3 + 2", y.sum(3, 2), 1);
        Due.is("2 + 3 is set: setSum(3, 2, 1)", y.setSum(3, 2, 1), NONE);
        Due.is("clearSum(3, 2)", y.clearSum(3, 2), 1);
        Due.is("3 + 2 is cleared: 2 + 3", y.sum(2, 3), NONE);
        Runs.read(y, "3+2=3");
        Due.is("3 + 2 is read: 2 + 3", y.sum(2, 3), 3);
        Due.is("one sum, not two", y.count(1), 1);
        Runs.read(y, "2+3");
        Due.is("2 + 3 is read away: 3 + 2", y.sum(3, 2), NONE);
    }

    private static void sumsWithNothing() {
        Doc.says(THINGS, "The sum of 0 and a thing is this thing, always;");
        Start[] objects = {
            SometimesSums::new, () -> Runs.withThings(12), () -> Runs.chain(1), () -> Runs.chain(11), () -> Runs.sets(1),
            () -> Runs.sets(3), () -> after(x -> x.removeThing(2)), () -> after(x -> x.removeThing(4)), () -> after(x -> x.glue(8)),
            () -> after(x -> x.swap(2, 4)), () -> after(x -> x.setSum(2, 2, 0)), () -> after(x -> x.clearSum(2, 2)),
            () -> after(x -> Runs.read(x, "2+2=0,3+3")), () -> after(x -> x.undo()), () -> after(x -> x.restore()),
            () -> after(x -> x.setSum(0, 2, 3)), () -> after(x -> x.clearSum(2, 0)), () -> after(x -> Runs.read(x, "0+2")),
            () -> after(x -> x.removeThing(2) + x.removeThing(2) + x.twice()),
        };
        for (int i = 0; i < objects.length; i++) {
            SometimesSums x = objects[i].make();
            for (int thing = 0; thing < x.count(0); thing++) {
                Due.is("object " + i + ": 0 + " + thing, x.sum(0, thing), thing);
                Due.is("object " + i + ": " + thing + " + 0", x.sum(thing, 0), thing);
            }
        }
        Doc.says(THINGS, "all other sums are told by a table.");
        Due.is("1 + 1 may be told", new SometimesSums().setSum(1, 1, 0), 12);
        Due.is("0 + 1 may not", new SometimesSums().setSum(0, 1, 1), NOT_POSSIBLE);
        Due.is("1 + 0 may not", new SometimesSums().setSum(1, 0, 1), NOT_POSSIBLE);
    }

    /** A chain of the size 4, a snapshot of it, and a call more. */
    private static SometimesSums after(Call call) {
        SometimesSums x = Runs.chain(4);
        x.keep();
        call.of(x);
        return x;
    }

    private static void partsAndDifferences() {
        Doc.says(THINGS, "a is a part of b if there is a thing c such that b is the sum of a and c;");
        SometimesSums x = Runs.withSums(12, 2, 11, 3, 4, 4, 5, 6, 7, 0);
        Due.is("the parts of 3: 0, itself, and 2 by 11", x.thing(3, 1), bits(0, 2, 3, 11));
        Due.is("of 5, by 4 and itself", x.thing(5, 1), bits(0, 4, 5));
        Due.is("of 0", x.thing(0, 1), bits(0, 6, 7));
        Due.is("of 2, which is no sum", x.thing(2, 1), bits(0, 2));
        Due.is("0 is a part of all", x.thing(0, 2), bits(0, 1, 2, 3, 4, 5, 6, 7, 8, 9, 10, 11));
        Due.is("1 is a part of itself alone", x.thing(1, 2), bits(1));
        Doc.says(THINGS, "the least such c is the difference of b and a.");
        Due.is("by the last thing alone", x.difference(3, 2), 11);
        Due.is("by itself", x.difference(5, 4), 4);
        Due.is("a thing and itself", x.difference(8, 8), 0);
        Due.is("a thing and 0", x.difference(8, 0), 8);
        Due.is("0 and a part of it", x.difference(0, 7), 6);
        Due.is("the other way round it is none", x.difference(2, 3), NONE);
        x.setSum(2, 10, 3);
        Due.is("the lesser of 10 and 11", x.difference(3, 2), 10);
        x.setSum(2, 1, 3);
        Due.is("the least of 1, 10 and 11", x.difference(3, 2), 1);
        x.setSum(8, 8, 8);
        Due.is("0 is less than 8", x.difference(8, 8), 0);
    }

    private static int bits(int... things) {
        int set = 0;
        for (int thing : things) {
            set |= 1 << thing;
        }
        return set;
    }

    // ---- LAWS

    private static void laws() {
        regrouping();
        Doc.says(LAWS, "1: each thing a has just one thing b such that a + b is the whole.");
        dueBreak(Runs.withSums(3), 1, 2, NONE, NONE);
        dueBreak(Runs.withSums(3, 2, 2, 1), NONE, NONE, NONE, NONE);
        dueBreak(Runs.withSums(4, 2, 3, 1), NONE, NONE, NONE, NONE);
        dueBreak(Runs.withSums(4, 2, 3, 1, 2, 2, 1, 3, 3, 1), 1, 2, NONE, NONE);
        dueBreak(Runs.withSums(12, 2, 11, 1, 3, 10, 1, 4, 9, 1, 5, 8, 1, 6, 7, 1), NONE, NONE, NONE, NONE);
        dueBreak(Runs.withSums(12, 2, 3, 1, 4, 9, 1, 5, 8, 1, 6, 7, 1, 10, 10, 1), 1, 11, NONE, NONE);
        dueBreak(Runs.withSums(2, 1, 1, 1), 1, 1, NONE, NONE);
        Doc.says(LAWS, "2: if a + 1 has a sum, then a is 0.");
        dueBreak(Runs.withSums(2), NONE, NONE, NONE, NONE);
        dueBreak(Runs.withSums(2, 1, 1, 0), 2, 1, NONE, NONE);
        dueBreak(Runs.withSums(4, 2, 2, 0, 2, 3, 1, 1, 2, 3), 2, 2, NONE, NONE);
        dueBreak(Runs.withSums(4, 3, 3, 0, 2, 3, 1, 1, 3, 2), 2, 3, NONE, NONE);
        dueBreak(chainWithTurns(5, 2), 2, 11, NONE, NONE);
        Due.is("2 + 1 is no break if it has no sum", chainWithTurns(11, 1).count(7), 0);
        placesOfBreaks();
        firstBreaks();
        Doc.says(LAWS, "The rest of a thing a is the least thing b such that a + b is the whole.");
        SometimesSums x = Runs.withSums(12, 2, 11, 1);
        Due.is("the last thing", x.thing(2, 0), 11);
        x.setSum(2, 2, 1);
        Due.is("itself is less", x.thing(2, 0), 2);
        Due.is("the rest of the last one", x.thing(11, 0), 2);
        x.setSum(1, 1, 1);
        Due.is("0 is less than 1", x.thing(1, 0), 0);
        x.setSum(2, 1, 1);
        Due.is("1 is less than 2", x.thing(2, 0), 1);
    }

    /**
     * A chain, each number of which comes in so many kinds (1, 2 or 4), that turn when they are added:
     * all kinds of the number 0 have a sum with the whole, but else no law is broken. Those of 0 come last.
     */
    private static SometimesSums chainWithTurns(int m, int kinds) {
        SometimesSums x = Runs.withThings((m + 1) * kinds);
        for (int one = 1; one < (m + 1) * kinds; one++) {
            for (int other = one; other < (m + 1) * kinds; other++) {
                int number = numberOf(one, m, kinds) + numberOf(other, m, kinds);
                int kind = kindOf(one, m, kinds) ^ kindOf(other, m, kinds);
                for (int sum = 0; number <= m && sum < (m + 1) * kinds; sum++) {
                    if (numberOf(sum, m, kinds) == number && kindOf(sum, m, kinds) == kind) {
                        x.setSum(one, other, sum);
                    }
                }
            }
        }
        return x;
    }

    /** The thing 1 is the number m, the next ones are the numbers 1 to m - 1, all of the kind 0; then the other kinds. */
    private static int numberOf(int thing, int m, int kinds) {
        if (thing <= m) {
            return thing == 0 ? 0 : thing == 1 ? m : thing - 1;
        }
        int behind = thing - m - 1;
        return behind < m * (kinds - 1) ? 1 + behind % m : 0;
    }

    private static int kindOf(int thing, int m, int kinds) {
        if (thing <= m) {
            return 0;
        }
        int behind = thing - m - 1;
        return 1 + (behind < m * (kinds - 1) ? behind / m : behind - m * (kinds - 1));
    }

    private static void regrouping() {
        Doc.says(LAWS, "0: if b + c has a sum, and a + (b + c) has one, too, then a + b and (a + b) + c have one, and the latter is the same.");
        // 2 + 3 is 4, and 2 + 4 is not there: nothing is asked of 2 + 2.
        dueBreak(Runs.withSums(8, 2, 3, 4), 1, 2, NONE, NONE);
        // 3 + (2 + 3) is 1, and (3 + 2) + 3 is, too; but 3 + (3 + 2) is 1, and 3 + 3 is not there.
        dueBreak(Runs.withSums(8, 2, 3, 4, 4, 3, 1), 0, 3, 3, 2);
        // 5 + (2 + 3) is 6, and 5 + 2 is not there.
        dueBreak(Runs.withSums(8, 2, 3, 4, 5, 4, 6), 0, 5, 2, 3);
        // 5 + 2 is 7, and 7 + 3 is not there.
        dueBreak(Runs.withSums(8, 2, 3, 4, 5, 4, 6, 5, 2, 7), 0, 5, 2, 3);
        // 7 + 3 is 1: 3 + (2 + 5) is 1, too, and (3 + 2) + 5 is 6.
        dueBreak(Runs.withSums(8, 2, 3, 4, 5, 4, 6, 5, 2, 7, 7, 3, 1), 0, 3, 2, 5);
        // 7 + 3 is 6, and 5 + 3 is there as well: all ways are the same, as the law asks.
        SometimesSums kept = Runs.withSums(9, 2, 3, 4, 5, 4, 6, 5, 2, 7, 7, 3, 6, 5, 3, 8, 8, 2, 6);
        Due.is("broken(0)", kept.broken(0), 1);
        Due.is("but for the rests nothing is broken", kept.count(7), 7);
        // (2 + 2) + 3 is there, and 2 + 3 is not: the law asks only from the right to the left.
        SometimesSums left = Runs.withSums(6, 2, 2, 4, 4, 3, 5);
        dueBreak(left, 0, 3, 2, 2);
        Due.is("3, 2 and 2 alone break the law 0", left.count(7), 1 + 4);
    }

    private static void dueBreak(SometimesSums x, int law, int a, int b, int c) {
        Due.is("the law of " + Runs.state(x), x.broken(0), law);
        Due.is("the a of " + Runs.state(x), x.broken(1), a);
        Due.is("the b of " + Runs.state(x), x.broken(2), b);
        Due.is("the c of " + Runs.state(x), x.broken(3), c);
    }

    private static void placesOfBreaks() {
        Doc.says(LAWS, "A law is broken at a (or at a, b and c for the law 0).");
        // 5 + (2 + 3) and 5 + (3 + 2): two breaks of the law 0; all but 0 and 1 have no rest.
        Due.is("breaks of the law 0 at 5, 2, 3 and at 5, 3, 2", Runs.withSums(8, 2, 3, 4, 5, 4, 6).count(7), 2 + 6);
        Due.is("breaks of the law 1 at 2 and at 11", Runs.withSums(12, 3, 4, 1, 5, 6, 1, 7, 8, 1, 9, 10, 1).count(7), 2);
        Due.is("a thing with three rests breaks the law 1 once", Runs.withSums(5, 2, 2, 1, 2, 3, 1, 2, 4, 1).count(7), 1 + regroupings(5, 2, 2, 1, 2, 3, 1, 2, 4, 1));
        Due.is("a break of the law 2 at 1", Runs.withSums(2, 1, 1, 0).count(7), 1);
        Due.is("one of the law 1 and one of the law 2, at 1 both", Runs.withSums(2, 1, 1, 1).count(7), 2);
        Doc.says(LAWS, "The table is sound if no law is broken.");
        Due.is("sound", Runs.chain(11).count(2), 1);
        Due.is("sound with nothing and the whole alone", new SometimesSums().count(2), 1);
        Due.is("the law 0 alone is broken", Runs.withSums(6, 2, 3, 1, 4, 5, 1, 2, 4, 3).count(2), 0);
        Due.is("the law 1 alone is broken", Runs.withSums(3).count(2), 0);
        Due.is("the law 2 alone is broken", Runs.withSums(2, 1, 1, 0).count(2), 0);
    }

    /** How often the law 0 is broken, by going through all a, b and c. */
    private static int regroupings(int things, int... sums) {
        SometimesSums x = Runs.withSums(things, sums);
        int breaks = 0;
        for (int a = 0; a < things; a++) {
            for (int b = 0; b < things; b++) {
                for (int c = 0; c < things; c++) {
                    int late = plus(x, a, plus(x, b, c));
                    breaks += late >= 0 && plus(x, plus(x, a, b), c) != late ? 1 : 0;
                }
            }
        }
        return breaks;
    }

    private static int plus(SometimesSums x, int a, int b) {
        return a < 0 || b < 0 ? NONE : x.sum(a, b);
    }

    private static void firstBreaks() {
        Doc.says(LAWS, "The first break is that of the law with the lowest number,");
        // The law 1 is broken at 2, the law 2 at 1; the law 0 only at 5.
        dueBreak(Runs.withSums(8, 2, 3, 4, 5, 4, 6, 1, 1, 7), 0, 5, 2, 3);
        // The law 2 is broken at 2, the law 1 at 3 alone.
        dueBreak(Runs.withSums(4, 2, 2, 1, 1, 2, 3), 1, 3, NONE, NONE);
        Doc.says(LAWS, "of several that with the lowest a, then the lowest b, then the lowest c.");
        // At 2 and at 3: 2 + (4 + 5), 3 + (4 + 5).
        dueBreak(Runs.withSums(8, 4, 5, 6, 3, 6, 7), 0, 3, 4, 5);
        dueBreak(Runs.withSums(8, 4, 5, 6, 3, 6, 7, 2, 6, 7), 0, 2, 4, 5);
        // At 2, 4, 5 and at 2, 3, 7: the lower b counts, whatever c is.
        dueBreak(Runs.withSums(8, 4, 5, 6, 2, 6, 1, 3, 7, 6), 0, 2, 3, 7);
        // At 2, 4, 5 and at 2, 4, 7, since 4 + 7 is 6, too.
        dueBreak(Runs.withSums(8, 4, 7, 6, 2, 6, 1), 0, 2, 4, 7);
        dueBreak(Runs.withSums(8, 4, 5, 6, 2, 6, 1, 4, 7, 6), 0, 2, 4, 5);
        dueBreak(Runs.withSums(5, 2, 2, 1), 1, 3, NONE, NONE);
        dueBreak(Runs.withSums(5, 3, 3, 1), 1, 2, NONE, NONE);
        // The law 2 is broken at 9, 10 and 11.
        dueBreak(chainWithTurns(2, 4), 2, 9, NONE, NONE);
        Due.is("at all three", chainWithTurns(2, 4).count(7), 3);
    }

    // ---- GOING TOGETHER

    private static void goingTogether() {
        Doc.says(TOGETHER, "Two things a and b go together if there are things c, d and e such that a is c + d, b is d + e, and both a + e and c + b have a sum.");
        Due.is("5 and 6 have 3 in common only", goTogether(Runs.withSums(8, 2, 3, 5, 3, 4, 6), 5, 6), 0);
        Due.is("5 + 4 has a sum, 2 + 6 has none", goTogether(Runs.withSums(8, 2, 3, 5, 3, 4, 6, 5, 4, 7), 5, 6), 0);
        Due.is("2 + 6 has a sum, 5 + 4 has none", goTogether(Runs.withSums(8, 2, 3, 5, 3, 4, 6, 2, 6, 7), 5, 6), 0);
        Due.is("both have one", goTogether(Runs.withSums(8, 2, 3, 5, 3, 4, 6, 5, 4, 7, 2, 6, 7), 5, 6), 1);
        Due.is("not the same one", goTogether(Runs.withSums(8, 2, 3, 5, 3, 4, 6, 5, 4, 7, 2, 6, 0), 5, 6), 1);
        Due.is("two that have a sum", goTogether(Runs.withSums(5, 2, 3, 4), 2, 3), 1);
        Due.is("a part and its whole", goTogether(Runs.withSums(5, 2, 3, 4), 2, 4), 1);
        Due.is("two that have nothing to do with one another", goTogether(Runs.withSums(5), 2, 4), 0);
        SometimesSums alone = Runs.withSums(12);
        for (int thing = 0; thing < 12; thing++) {
            Due.is(thing + " and itself", goTogether(alone, thing, thing), 1);
            Due.is(thing + " and nothing", goTogether(alone, thing, 0), 1);
            Due.is("11 and " + thing, goTogether(alone, 11, thing), thing == 0 || thing == 11 ? 1 : 0);
        }
        blocks();
        smallestAndSharp();
    }

    private static int goTogether(SometimesSums x, int a, int b) {
        Due.is("it is so the other way round, too", x.thing(a, 5) >> b & 1, x.thing(b, 5) >> a & 1);
        return x.thing(a, 5) >> b & 1;
    }

    private static void blocks() {
        Doc.says(TOGETHER, "A block is a set of things any two of which go together, and to which no other thing can be added.");
        SometimesSums x = Runs.withSums(6, 2, 3, 4);
        Due.is("2, 3 and 4, not two of them", x.block(1, 0), bits(0, 2, 3, 4));
        Due.is("nothing and the whole", x.block(0, 0), bits(0, 1));
        Due.is("nothing and 5, with which none goes", x.block(2, 0), bits(0, 5));
        Due.is("there are no others", x.count(3), 3);
        Due.is("all things at once", Runs.chain(11).block(0, 0), 4095);
        Due.is("two things", new SometimesSums().block(0, 0), 3);
        // 2 with 3, 3 with 4, 4 with 5 and 5 with 2: no three of them go together.
        SometimesSums ring = Runs.withSums(6, 2, 3, 1, 3, 4, 1, 4, 5, 1, 2, 5, 1);
        Due.is("blocks of a ring", ring.count(3), 4);
        Due.is("the first of the ring", ring.block(0, 0), bits(0, 1, 2, 3));
        Due.is("the last of the ring", ring.block(3, 0), bits(0, 1, 4, 5));
        Doc.says(TOGETHER, "Blocks have an order: as bits (1 for the thing 0, 2 for 1, 4 for 2, and so on), the least number first.");
        Due.is("the second: 2 and 5 come behind 3 and 4", ring.block(1, 0), bits(0, 1, 3, 4));
        Due.is("the third", ring.block(2, 0), bits(0, 1, 2, 5));
        // Of 2 with 11 and of 3 with 4, the former has the lower thing and the greater number.
        SometimesSums far = Runs.withSums(12, 2, 11, 1, 3, 4, 1);
        Due.is("3 and 4 first", far.block(0, 0), bits(0, 1, 3, 4));
        Due.is("2 and 11 last", far.block(far.count(3) - 1, 0), bits(0, 1, 2, 11));
        for (int rank = 1; rank < far.count(3); rank++) {
            Due.is("the block " + rank + " is greater", far.block(rank, 0) > far.block(rank - 1, 0) ? 1 : 0, 1);
        }
    }

    private static void smallestAndSharp() {
        Doc.says(TOGETHER, "A smallest part is a thing that is not 0, of which no other thing but 0 is a part.");
        Due.is("nothing is none", new SometimesSums().thing(0, 3), 0);
        Due.is("the whole may be one", new SometimesSums().thing(1, 3), 1);
        Due.is("a thing without sums is one", Runs.withSums(12).thing(11, 3), 1);
        Due.is("3 has the part 2", Runs.withSums(4, 2, 2, 3).thing(3, 3), 0);
        Due.is("3 has the part 11", Runs.withSums(12, 11, 11, 3).thing(3, 3), 0);
        Due.is("3 has the part 1", Runs.withSums(4, 1, 1, 3).thing(3, 3), 0);
        Due.is("3 is a part of itself only", Runs.withSums(4, 3, 3, 3).thing(3, 3), 1);
        Due.is("what adds nothing is a part, too", Runs.withSums(4, 2, 3, 3).thing(3, 3), 0);
        Due.is("2 is a part of 3, and not 3 of 2", Runs.withSums(4, 2, 3, 3).thing(2, 3), 1);
        Doc.says(TOGETHER, "A thing is sharp if only 0 is a part of both it and its rest");
        Due.is("nothing is", new SometimesSums().thing(0, 4), 1);
        Due.is("the whole is", new SometimesSums().thing(1, 4), 1);
        Due.is("2 and 3 have no part in common", Runs.withSums(4, 2, 3, 1).thing(2, 4), 1);
        Due.is("2 is its own rest", Runs.withSums(3, 2, 2, 1).thing(2, 4), 0);
        Due.is("2 is a part of its rest", Runs.withSums(4, 2, 3, 1, 2, 2, 3).thing(2, 4), 0);
        Due.is("11 is a part of both", Runs.withSums(12, 2, 3, 1, 11, 10, 2, 11, 9, 3).thing(2, 4), 0);
        Due.is("1 is a part of both", Runs.withSums(4, 2, 3, 1, 1, 1, 2, 1, 3, 3).thing(2, 4), 0);
        Due.is("only the least rest counts", Runs.withSums(5, 2, 3, 1, 2, 4, 1, 2, 2, 4).thing(2, 4), 1);
        Due.is("0 is, for all its parts", Runs.withSums(4, 2, 3, 0).thing(0, 4), 1);
        Due.is("0 has a part in common with 1", Runs.withSums(4, 2, 3, 0, 2, 2, 1).thing(0, 4), 0);
        Doc.says(TOGETHER, "(a thing without a rest is not).");
        Due.is("2 has none", Runs.withSums(3).thing(2, 4), 0);
        Due.is("2 has none, for all its sums", Runs.withSums(5, 2, 3, 4).thing(2, 4), 0);
    }

    // ---- WEIGHTS

    private static void weights() {
        Doc.says(WEIGHTS, "A weighing by k (1 to 6) gives each thing a weight, a whole number from 0 to k,");
        for (int k = 1; k <= 6; k++) {
            SometimesSums free = Runs.withSums(3);
            Due.is("a free thing: weighings(" + k + ")", free.weighings(k), k + 1);
            Due.is("its least weight by " + k, free.range(k, 2, false), 0);
            Due.is("its greatest weight by " + k, free.range(k, 2, true), k);
            SometimesSums half = Runs.chain(2);
            Due.is("a half is a whole number: weighings(" + k + ")", half.weighings(k), k % 2 == 0 ? 1 : 0);
            SometimesSums third = Runs.chain(3);
            Due.is("a third is one, too: weighings(" + k + ")", third.weighings(k), k % 3 == 0 ? 1 : 0);
        }
        Due.is("k of 0", Runs.chain(2).weighings(0), BAD_VALUE);
        Due.is("k of 7", Runs.chain(2).weighings(7), BAD_VALUE);
        // 3 is twice 2, so that 2 is at most half of k; a sum weighs no more than k.
        Due.is("2 + 2 weighs no more than k", Runs.withSums(4, 2, 2, 3).range(5, 2, true), 2);
        // 1 + 2 is 3: no weight is beyond k, so that 2 is 0. And none is below 0: 3 + 2 = 0.
        Due.is("1 + 2 weighs no more than k", Runs.withSums(4, 1, 2, 3).range(6, 2, true), 0);
        Due.is("3 is no less than 0", Runs.withSums(4, 2, 3, 0).range(6, 2, true), 0);
        Doc.says(WEIGHTS, "the whole k,");
        Due.is("the least weight of the whole", Runs.withSums(12).range(5, 1, false), 5);
        Due.is("its greatest weight", Runs.withSums(12).range(5, 1, true), 5);
        Due.is("a sum that is the whole", Runs.withSums(4, 2, 3, 1).weighings(6), 7);
        Due.is("the whole twice is none", Runs.withSums(3, 1, 1, 2).weighings(6), 0);
        Doc.says(WEIGHTS, "such that the weight of each sum is the sum of both weights (so that of 0 is 0).");
        Due.is("nothing weighs nothing", Runs.withSums(12).range(6, 0, true), 0);
        Due.is("2 + 2 = 2 makes 2 nothing", Runs.withSums(3, 2, 2, 2).weighings(6), 1);
        Due.is("2 + 3 = 3 makes 2 nothing, and leaves 3", Runs.withSums(4, 2, 3, 3).weighings(6), 7);
        Due.is("both summands of 0 are nothing", Runs.withSums(4, 2, 3, 0).weighings(6), 1);
        Due.is("two weights make a third one", Runs.withSums(5, 2, 3, 4).weighings(2), 6);
        Due.is("a sum of 11 and 11", Runs.withSums(12, 11, 11, 1).range(6, 11, false), 3);
        orderOfWeighings();
    }

    private static void orderOfWeighings() {
        Doc.says(WEIGHTS, "Weighings by k have an order: the one comes first that has the lower weight at the first thing (by number) at which they differ.");
        SometimesSums x = Runs.withSums(5, 2, 3, 1, 2, 4, 3);
        // By 6: 2 at least 0, 3 is 6 less it, 4 is 6 less twice it.
        Due.is("2 is as low as can be", x.weight(6, 2), 0);
        Due.is("3 follows from it", x.weight(6, 3), 6);
        Due.is("4 follows from it", x.weight(6, 4), 6);
        SometimesSums later = Runs.withSums(5, 3, 4, 1);
        Due.is("2 is free", later.weight(6, 2), 0);
        Due.is("3 before 4", later.weight(6, 3), 0);
        Due.is("4 bears what 3 leaves", later.weight(6, 4), 6);
        SometimesSums last = Runs.withSums(12, 10, 11, 1, 2, 11, 1);
        Due.is("2 before 10 and 11", last.weight(4, 2), 0);
        Due.is("11 follows from 2", last.weight(4, 11), 4);
        Due.is("10 follows from 11", last.weight(4, 10), 0);
        // 2 is 3 twice and 1 less 4: by 5 the lowest weight of 2 is 0, by an order from the last thing on it were 4.
        SometimesSums order = Runs.withSums(5, 3, 3, 2, 2, 4, 1);
        Due.is("2 by 5", order.weight(5, 2), 0);
        Due.is("4 by 5", order.weight(5, 4), 5);
    }

    // ---- TABLES THAT ARE BUILT IN

    private static void builtIn() {
        Doc.says(BUILT_IN, "0: chains of a size m (1 to 11): things 0 and 1, and m - 1 others;");
        Due.is("a chain of 0", new SometimesSums().take(0, 0), BAD_VALUE);
        Due.is("a chain of 1: nothing and the whole", new SometimesSums().take(0, 1), 2);
        Due.is("a chain of 2: one other", new SometimesSums().take(0, 2), 3);
        Due.is("a chain of 11: ten others", new SometimesSums().take(0, 11), 12);
        Due.is("a chain of 12", new SometimesSums().take(0, 12), BAD_VALUE);
        Doc.says(BUILT_IN, "a thing stands for a number from 0 to m: 0 for 0, 1 for m, and 2, 3, and so on for 1, 2, and so on;");
        Doc.says(BUILT_IN, "two things have the sum that stands for the sum of their numbers, if this is at most m.");
        Runs.hasJust(Runs.chain(1));
        Runs.hasJust(Runs.chain(2), 2, 2, 1);
        Runs.hasJust(Runs.chain(3), 2, 2, 3, 2, 3, 1);
        Runs.hasJust(Runs.chain(5), 2, 2, 3, 2, 3, 4, 2, 4, 5, 2, 5, 1, 3, 3, 5, 3, 4, 1);
        SometimesSums longest = Runs.chain(11);
        Due.is("1 and 9 are 10", longest.sum(2, 10), 11);
        Due.is("1 and 10 are m", longest.sum(2, 11), 1);
        Due.is("2 and 10 are more than m", longest.sum(3, 11), NONE);
        Due.is("5 and 6 are m", longest.sum(6, 7), 1);
        Due.is("m and 1 are more than m", longest.sum(1, 2), NONE);
        Due.is("m twice is more than m", longest.sum(1, 1), NONE);
        Due.is("all sums from 1 + 1 on", longest.count(1), 30);
        builtInSets();
    }

    private static void builtInSets() {
        Doc.says(BUILT_IN, "1: sets of a size m (1 to 3):");
        Due.is("sets of no sign", new SometimesSums().take(1, 0), BAD_VALUE);
        Due.is("sets of 1 sign", new SometimesSums().take(1, 1), 2);
        Due.is("sets of 2 signs", new SometimesSums().take(1, 2), 4);
        Due.is("sets of 3 signs", new SometimesSums().take(1, 3), 8);
        Due.is("sets of 4 signs", new SometimesSums().take(1, 4), BAD_VALUE);
        Doc.says(BUILT_IN, "each thing stands for a set of m signs: 0 for none, 1 for all, and 2, 3, and so on for the others, as bits from the least number on;");
        Doc.says(BUILT_IN, "two sets have their union as their sum, if they have no sign in common.");
        Runs.hasJust(Runs.sets(1));
        Runs.hasJust(Runs.sets(2), 2, 3, 1);
        // 2 is 001, 3 is 010, 4 is 011, 5 is 100, 6 is 101, 7 is 110.
        Runs.hasJust(Runs.sets(3), 2, 3, 4, 2, 5, 6, 3, 5, 7, 2, 7, 1, 3, 6, 1, 4, 5, 1);
        Due.is("a set and itself", Runs.sets(3).sum(2, 2), NONE);
        Due.is("one sign in common", Runs.sets(3).sum(4, 7), NONE);
        Due.is("all signs twice", Runs.sets(3).sum(1, 1), NONE);
        Due.is("all signs, and a set of them", Runs.sets(3).sum(1, 2), NONE);
    }

    // ---- TEXTS

    private static void texts() {
        Doc.says(TEXTS, "There is a text of at most 60 characters, empty at first.");
        SometimesSums x = new SometimesSums();
        Due.is("the length at first", x.count(9), 0);
        Due.is("the fault at first", x.readSums(), -100);
        for (int i = 1; i <= 60; i++) {
            Due.is("the character " + i, x.type('2'), i);
        }
        Due.is("the character 61", x.type('2'), FULL);
        Due.is("the length then", x.count(9), 60);
        Doc.says(TEXTS, "A row of sums is one or more sums with \",\" between two;");
        dueRead("2+2=3", 1);
        dueRead("2+2=3,2+3=4", 2);
        dueRead("1+2=2,1+3=3,1+4=4,1+5=5,1+6=6,1+7=7,1+8=8,1+9=9,2+2=2,2+3=3", 10);
        Due.is("this row is long", "1+2=2,1+3=3,1+4=4,1+5=5,1+6=6,1+7=7,1+8=8,1+9=9,2+2=2,2+3=3".length(), 59);
        dueRead("1+2=2,1+3=3,1+4=4,1+5=5,1+6=6,1+7=7,1+8=8,1+9=9,2+2=2,2+3=10", 10);
        dueRead("1+1,1+2,1+3,1+4,1+5,1+6,1+7,1+8,1+9,2+2,2+3,2+4,2+5,2+6,2+7", 0);
        dueRead("1+1,1+2,1+3,1+4,1+5,1+6,1+7,1+8,1+9,2+2,2+3,2+4,2+5,2+6,2+10", 0);
        dueFault(",2+2=3", 0);
        dueFault("2+2=3,", 6);
        dueFault("2+2=3,,2+3=4", 6);
        dueFault("2+2=32+3=4", 5);
        dueFault("2+2=3;2+3=4", 5);
        Doc.says(TEXTS, "a sum is a thing, \"+\", a thing, and perhaps \"=\" and a thing (without \"=\", there is to be no sum).");
        dueRead("2+2", 0);
        dueRead("2+2=3,2+2", 0);
        dueRead("2+2=3,3+3,2+2,2+2=4", 1);
        dueRead("11+11=11", 1);
        dueFault("+2=3", 0);
        dueFault("2-2=3", 1);
        dueFault("2=3", 1);
        dueFault("22", 1);
        dueFault("2+=3", 2);
        dueFault("2+2==3", 4);
        dueFault("2+2=3=3", 5);
        dueFault("2+2+2=3", 3);
        dueFault("2+2=3+2", 5);
        thingsInTexts();
    }

    private static void thingsInTexts() {
        Doc.says(TEXTS, "A thing is told by one or two digits, without a zero in front unless it is the single digit 0, and is at most 11.");
        for (int thing = 1; thing <= 11; thing++) {
            dueRead(thing + "+" + thing + "=" + thing, 1);
            dueRead("1+" + thing, 0);
            dueRead("2+3=" + thing, 1);
        }
        dueRead("2+2=0", 1);
        dueRead("10+11=10,1+10", 1);
        String[] wrong = {"00", "01", "09", "12", "13", "19", "20", "99"};
        for (String thing : wrong) {
            dueFault(thing + "+2=3", 1);
            dueFault("2+" + thing + "=3", 3);
            dueFault("2+2=" + thing, 5);
            dueFault("2+2,1+1=" + thing, 9);
        }
        for (String thing : new String[] {"100", "101", "110", "111", "119"}) {
            dueFault(thing + "+2=3", 2);
            dueFault("2+" + thing, 4);
            dueFault("2+2=" + thing + ",2+2", 6);
        }
        Due.is("the single digit 0 is no fault", read("2+0=3"), NOT_POSSIBLE);
        Due.is("nor is it as the first", read("0+2=3"), NOT_POSSIBLE);
    }

    private static int read(String text) {
        return Runs.read(Runs.withThings(12), text);
    }

    private static void dueRead(String text, int sums) {
        Due.is("reading '" + text + "'", read(text), sums);
    }

    private static void dueFault(String text, int fault) {
        Due.is("the fault of '" + text + "'", read(text), -100 - fault);
    }

    private static void faults() {
        Doc.says(TEXTS, "The fault of the text is the index, from 0, of the first character that is not allowed at its place");
        String fine = "10+11=10,2+3";
        for (int i = 0; i < fine.length(); i++) {
            dueFault(fine.substring(0, i) + "x" + fine.substring(i), i);
            dueFault(fine.substring(0, i) + " " + fine.substring(i), i);
        }
        dueFault(fine + "x", 12);
        dueFault("x2+2,x", 0);
        dueFault("2+2,x,y", 4);
        dueRead(fine + ",1+1,1+2,1+3,1+4,1+5,1+6,1+7,1+8,1+9,2+2,2+3,2+4", 1);
        dueFault("1+1,1+2,1+3,1+4,1+5,1+6,1+7,1+8,1+9,2+2,2+3,2+4,2+5,2+6,2+7x", 59);
        dueFault("1+1,1+2,1+3,1+4,1+5,1+6,1+7,1+8,1+9,2+2,2+3,2+4,2+5,2+6,2+7,", 60);
        dueFault((char) ('0' - 1) + "+2", 0);
        dueFault((char) ('9' + 1) + "+2", 0);
        dueFault("2+1" + (char) ('0' - 1), 3);
        dueFault("2+1" + (char) ('9' + 1), 3);
        dueFault("2+1" + (char) ('1' + 256), 3);
        dueFault((char) 0 + "2+2", 0);
        dueFault((char) 65535 + "2+2", 0);
        Doc.says(TEXTS, "(a digit by which a thing would be more than 11, too),");
        for (char digit = '2'; digit <= '9'; digit++) {
            dueFault("1" + digit + "+2", 1);
            dueFault("2+1" + digit + ",x", 3);
            dueFault("2+2=1" + digit, 5);
            dueFault("2+2=" + digit + '0', 5);
            dueFault("2+2=" + digit + '1', 5);
        }
        dueFault("11" + '0' + "+2", 2);
        Doc.says(TEXTS, "or the length of the text if it ends too early (the empty text does).");
        dueFault("", 0);
        String early = "10+11=10,2+3=4,2";
        int[] complete = {5, 7, 8, 12, 14};
        for (int length = 0; length <= early.length(); length++) {
            boolean ends = contains(complete, length) || length == 4;
            Due.is("read '" + early.substring(0, length) + "'", read(early.substring(0, length)) <= -100 ? 1 : 0, ends ? 0 : 1);
            if (!ends) {
                dueFault(early.substring(0, length), length);
            }
        }
    }

    private static boolean contains(int[] numbers, int wanted) {
        for (int number : numbers) {
            if (number == wanted) {
                return true;
            }
        }
        return false;
    }

    // ---- HISTORY

    private static void history() {
        Doc.says(HISTORY, "A history of at most 4 states is kept;");
        SometimesSums x = new SometimesSums();
        int[] states = {0, 1, 2, 3, 4, 4, 4, 4, 4, 4, 4};
        for (int acts = 0; acts <= 10; acts++) {
            Due.is("states after " + acts + " acts", x.count(8), states[acts]);
            x.addThing();
        }
        Doc.says(HISTORY, "when one more is recorded, the oldest one is dropped;");
        for (int things = 11; things >= 8; things--) {
            Due.is("undo() to " + things, x.undo(), things - 8);
            Due.is("things then", x.count(0), things);
        }
        Due.is("the states before are gone", x.undo(), NONE);
        Due.is("things stay", x.count(0), 8);
        Doc.says(HISTORY, "undo() removes and restores the latest one.");
        SometimesSums y = Runs.withSums(5, 2, 3, 4);
        y.setSum(2, 3, 1);
        y.removeThing(3);
        y.addThing();
        Due.is("undo() of addThing()", y.undo(), 3);
        Due.is("four things", y.count(0), 4);
        Due.is("undo() of removeThing(3)", y.undo(), 2);
        Runs.hasJust(y, 2, 3, 1);
        Due.is("undo() of setSum(2, 3, 1)", y.undo(), 1);
        Runs.hasJust(y, 2, 3, 4);
        Due.is("undo() of setSum(2, 3, 4)", y.undo(), 0);
        Runs.hasJust(y);
        Due.is("an act after undo()", y.glue(2), 6);
        Due.is("is undone alone", y.undo(), 0);
        Due.is("five things", y.count(0), 5);
        recording();
        Doc.says(HISTORY, "There is one snapshot, empty at first.");
        SometimesSums z = Runs.chain(4);
        Due.is("none at first", z.restore(), NONE);
        z.keep();
        z.take(0, 2);
        z.keep();
        z.take(0, 7);
        Due.is("only the later one is there", z.restore(), 3);
        Due.is("and again", z.restore(), 3);
        whatAStateIs();
    }

    private static void recording() {
        Doc.says(HISTORY, "Each call of a method that is described as an act, and returns no error and not NONE, records the state that was before it.");
        Start chain = () -> after(x -> x.type('2') + x.type('+') + x.type('4'));
        Runs.isAct("take(0, 4)", chain, x -> x.take(0, 4), 5);
        Runs.isAct("addThing()", chain, x -> x.addThing(), 5);
        Runs.isAct("removeThing(4)", chain, x -> x.removeThing(4), 4);
        Runs.isAct("setSum(2, 2, 2)", chain, x -> x.setSum(2, 2, 2), 3);
        Runs.isAct("clearSum(2, 2)", chain, x -> x.clearSum(2, 2), 3);
        Runs.isAct("readSums()", chain, x -> x.readSums(), 3);
        Runs.isAct("glue(2)", chain, x -> x.glue(2), 6);
        Runs.isAct("twice()", () -> Runs.chain(2), x -> x.twice(), 6);
        Runs.isAct("swap(2, 3)", chain, x -> x.swap(2, 3), 4);
        Runs.isAct("restore()", chain, x -> x.restore(), 5);
        Call[] others = {
            x -> x.type('2'), x -> x.clearText(), x -> x.keep(), x -> x.sum(2, 3), x -> x.difference(4, 2), x -> x.broken(0),
            x -> x.thing(2, 5), x -> x.sumOf(12), x -> x.block(0, 1), x -> x.weighings(4), x -> x.weight(4, 2),
            x -> x.range(4, 2, true), x -> x.count(3),
        };
        for (int i = 0; i < others.length; i++) {
            SometimesSums x = chain.make();
            String before = Runs.state(x);
            others[i].of(x);
            Due.is("the call " + i + " is no act: count(8)", x.count(8), 1);
            Due.same("it leaves the state", Runs.state(x), before);
        }
        SometimesSums undone = chain.make();
        undone.addThing();
        Due.is("undo() records nothing itself", undone.undo() + 10 * undone.count(8), 11);
    }

    private static void whatAStateIs() {
        Doc.says(HISTORY, "A state is everything but the text, the history and the snapshot.");
        SometimesSums x = Runs.withSums(6, 2, 3, 4, 5, 5, 1);
        x.keep();
        Runs.type(x, "2+2");
        x.addThing();
        x.type('=');
        Due.is("undo()", x.undo(), 3);
        Due.is("leaves the text", x.count(9), 4);
        x.addThing();
        Due.is("restore()", x.restore(), 6);
        Due.is("leaves the text, too", x.count(9), 4);
        Due.is("and the history, but for its own state", x.count(8), 4);
        Runs.hasJust(x, 2, 3, 4, 5, 5, 1);
        x.take(0, 3);
        x.undo();
        Due.is("undo() leaves the snapshot", x.restore(), 6);
        x.clearText();
        x.undo();
        Due.is("undo() brings no text back", x.count(9), 0);
        x.undo();
        Due.is("things and sums are the state", x.count(0), 7);
        Runs.hasJust(x, 2, 3, 4, 5, 5, 1);
    }

    // ---- ERRORS

    private static void errors() {
        Doc.says(ERRORS, "Errors are reported by the constants below.");
        Doc.says(ERRORS, "The constants: ");
        Due.is("UNKNOWN", SometimesSums.UNKNOWN, -1);
        Due.is("BAD_VALUE", SometimesSums.BAD_VALUE, -2);
        Due.is("FULL", SometimesSums.FULL, -3);
        Due.is("NOT_POSSIBLE", SometimesSums.NOT_POSSIBLE, -4);
        Due.is("NONE", SometimesSums.NONE, -5);
        Doc.says(ERRORS, "There is no such thing.");
        Due.is("sum(2, 0) of two things", new SometimesSums().sum(2, 0), UNKNOWN);
        Doc.says(ERRORS, "Another argument is out of range.");
        Due.is("count(10)", new SometimesSums().count(10), BAD_VALUE);
        Doc.says(ERRORS, "There is no more room.");
        Due.is("addThing() to 12", Runs.withThings(12).addThing(), FULL);
        Doc.says(ERRORS, "This is not possible.");
        Due.is("removeThing(0)", new SometimesSums().removeThing(0), NOT_POSSIBLE);
        Doc.says(ERRORS, "There is no such thing; not an error.");
        Due.is("undo()", new SometimesSums().undo(), NONE);
        Doc.demandsNothing(ERRORS, "Ahead of the calls ");
        for (String heading : new String[] {"tables", "texts", "history", "sums, told", "blocks", "weights"}) {
            Doc.demandsNothing(ERRORS, "the interface says: ---- " + heading + ".");
        }
        Doc.says(ERRORS, "A call that returns an error or NONE changes nothing.");
        refusedTables();
        refusedAnswers();
        Runs.changesNothing("type() of a full text", SentencesOfTermsTest::longText, x -> x.type('3'), FULL);
        Runs.changesNothing("undo() of nothing", SentencesOfTermsTest::kept, x -> x.undo(), NONE);
        Runs.changesNothing("restore() of nothing", () -> Runs.chain(3), x -> x.restore(), NONE);
    }

    /** Four states, a snapshot and a text that can be read. */
    private static SometimesSums rich() {
        SometimesSums x = Runs.chain(3);
        x.keep();
        x.glue(2);
        x.setSum(4, 3, 2);
        x.addThing();
        Runs.type(x, "2+5=3");
        return x;
    }

    private static SometimesSums longText() {
        SometimesSums x = rich();
        Runs.type(x, ",2+5=3,2+5=3,2+5=3,2+5=3,2+5=3,2+5=3,2+5=3,2+5=3,2+5=10");
        return x;
    }

    private static SometimesSums kept() {
        SometimesSums x = Runs.withSums(3);
        x.keep();
        x.undo();
        return x;
    }

    /** 12 things, with the same history, snapshot and text as rich(). */
    private static SometimesSums full() {
        SometimesSums x = rich();
        x.glue(7);
        return x;
    }

    private static SometimesSums withText(String text) {
        SometimesSums x = rich();
        x.clearText();
        Runs.type(x, text);
        return x;
    }

    private static void refusedTables() {
        Start rich = SentencesOfTermsTest::rich;
        Start full = SentencesOfTermsTest::full;
        Runs.changesNothing("take(0, 12)", rich, x -> x.take(0, 12), BAD_VALUE);
        Runs.changesNothing("take(1, 4)", rich, x -> x.take(1, 4), BAD_VALUE);
        Runs.changesNothing("take(2, 1)", rich, x -> x.take(2, 1), BAD_VALUE);
        Runs.changesNothing("addThing()", full, x -> x.addThing(), FULL);
        Runs.changesNothing("removeThing(6)", rich, x -> x.removeThing(6), UNKNOWN);
        Runs.changesNothing("removeThing(1)", rich, x -> x.removeThing(1), NOT_POSSIBLE);
        Runs.changesNothing("setSum(2, 2, 6)", rich, x -> x.setSum(2, 2, 6), UNKNOWN);
        Runs.changesNothing("setSum(0, 2, 3)", rich, x -> x.setSum(0, 2, 3), NOT_POSSIBLE);
        Runs.changesNothing("setSum(2, 2, 3)", rich, x -> x.setSum(2, 2, 3), NONE);
        Runs.changesNothing("clearSum(2, 6)", rich, x -> x.clearSum(2, 6), UNKNOWN);
        Runs.changesNothing("clearSum(2, 0)", rich, x -> x.clearSum(2, 0), NOT_POSSIBLE);
        Runs.changesNothing("clearSum(5, 5)", rich, x -> x.clearSum(5, 5), NONE);
        Runs.changesNothing("glue(1)", rich, x -> x.glue(1), BAD_VALUE);
        Runs.changesNothing("glue(8)", rich, x -> x.glue(8), FULL);
        Runs.changesNothing("twice()", full, x -> x.twice(), FULL);
        Runs.changesNothing("swap(2, 6)", rich, x -> x.swap(2, 6), UNKNOWN);
        Runs.changesNothing("swap(2, 1)", rich, x -> x.swap(2, 1), NOT_POSSIBLE);
        Runs.changesNothing("swap(2, 2)", rich, x -> x.swap(2, 2), NONE);
        Runs.changesNothing("readSums() with a fault", () -> withText("2+2=2,3+3=3,"), x -> x.readSums(), -112);
        Runs.changesNothing("readSums() of 6", () -> withText("2+2=2,3+3=3,2+6"), x -> x.readSums(), UNKNOWN);
        Runs.changesNothing("readSums() with 0", () -> withText("2+2=2,3+3=3,2+0"), x -> x.readSums(), NOT_POSSIBLE);
    }

    private static void refusedAnswers() {
        Start rich = SentencesOfTermsTest::rich;
        Runs.changesNothing("sum(2, 6)", rich, x -> x.sum(2, 6), UNKNOWN);
        Runs.changesNothing("sum(5, 5)", rich, x -> x.sum(5, 5), NONE);
        Runs.changesNothing("difference(2, 6)", rich, x -> x.difference(2, 6), UNKNOWN);
        Runs.changesNothing("difference(5, 2)", rich, x -> x.difference(5, 2), NONE);
        Runs.changesNothing("broken(4)", rich, x -> x.broken(4), BAD_VALUE);
        Runs.changesNothing("broken(0) of a chain", () -> Runs.chain(3), x -> x.broken(0), NONE);
        Runs.changesNothing("thing(6, 0)", rich, x -> x.thing(6, 0), UNKNOWN);
        Runs.changesNothing("thing(2, 8)", rich, x -> x.thing(2, 8), BAD_VALUE);
        Runs.changesNothing("thing(5, 0)", rich, x -> x.thing(5, 0), NONE);
        Runs.changesNothing("sumOf(64)", rich, x -> x.sumOf(64), UNKNOWN);
        Runs.changesNothing("sumOf(36)", rich, x -> x.sumOf(36), NONE);
        Runs.changesNothing("block(0, 2)", rich, x -> x.block(0, 2), BAD_VALUE);
        Runs.changesNothing("block(99, 0)", rich, x -> x.block(99, 0), NONE);
        Runs.changesNothing("weighings(7)", rich, x -> x.weighings(7), BAD_VALUE);
        Runs.changesNothing("weight(7, 0)", rich, x -> x.weight(7, 0), BAD_VALUE);
        Runs.changesNothing("weight(1, 6)", rich, x -> x.weight(1, 6), UNKNOWN);
        Runs.changesNothing("weight(1, 0)", rich, x -> x.weight(1, 0), NONE);
        Runs.changesNothing("range(0, 0)", rich, x -> x.range(0, 0, true), BAD_VALUE);
        Runs.changesNothing("range(1, 6)", rich, x -> x.range(1, 6, true), UNKNOWN);
        Runs.changesNothing("range(1, 0)", rich, x -> x.range(1, 0, true), NONE);
        Runs.changesNothing("count(10)", rich, x -> x.count(10), BAD_VALUE);
    }

    private static void orderOfChecks() {
        Doc.says(ERRORS, "Where several errors can apply, the order of the @return line is the order of the checks.");
        SometimesSums x = full();
        Due.is("setSum(0, 12, 1): UNKNOWN, then NOT_POSSIBLE", x.setSum(0, 12, 1), UNKNOWN);
        Due.is("setSum(12, 0, 1)", x.setSum(12, 0, 1), UNKNOWN);
        Due.is("setSum(0, 0, 12)", x.setSum(0, 0, 12), UNKNOWN);
        Due.is("clearSum(0, 12)", x.clearSum(0, 12), UNKNOWN);
        Due.is("clearSum(-1, 0)", x.clearSum(-1, 0), UNKNOWN);
        Due.is("glue(12) of 12: BAD_VALUE, then FULL", x.glue(12), BAD_VALUE);
        Due.is("glue(1) of 12", x.glue(1), BAD_VALUE);
        Due.is("swap(0, 12): UNKNOWN, then NOT_POSSIBLE", x.swap(0, 12), UNKNOWN);
        Due.is("swap(-1, 1)", x.swap(-1, 1), UNKNOWN);
        Due.is("thing(12, 8): UNKNOWN, then BAD_VALUE", x.thing(12, 8), UNKNOWN);
        Due.is("thing(-1, -1)", x.thing(-1, -1), UNKNOWN);
        Due.is("weight(7, 12): BAD_VALUE, then UNKNOWN", x.weight(7, 12), BAD_VALUE);
        Due.is("range(0, -1)", x.range(0, -1, false), BAD_VALUE);
        Due.is("a fault, then UNKNOWN, then NOT_POSSIBLE", Runs.read(Runs.chain(3), "0+2,2+9,x"), -108);
        Due.is("UNKNOWN, then NOT_POSSIBLE", Runs.read(Runs.chain(3), "0+2,2+9"), UNKNOWN);
        Due.is("UNKNOWN in the same sum", Runs.read(Runs.chain(3), "0+9"), UNKNOWN);
        Due.is("NOT_POSSIBLE with none before it", Runs.read(Runs.chain(3), "2+3,0+2"), NOT_POSSIBLE);
        Doc.says(ERRORS, "NONE is no error; it is returned only if no error applies.");
        Due.is("setSum(0, 2, 2), which is so already", x.setSum(0, 2, 2), NOT_POSSIBLE);
        Due.is("swap(0, 0), which are the same", x.swap(0, 0), NOT_POSSIBLE);
        Due.is("swap(1, 1)", x.swap(1, 1), NOT_POSSIBLE);
        Due.is("swap(12, 12)", x.swap(12, 12), UNKNOWN);
        Due.is("clearSum(12, 12), which have no sum", x.clearSum(12, 12), UNKNOWN);
        Due.is("broken(4) of a sound table", Runs.chain(3).broken(4), BAD_VALUE);
        Due.is("broken(-1) of a sound table", Runs.chain(3).broken(-1), BAD_VALUE);
        Due.is("block(99, 2), of which there are not so many", x.block(99, 2), BAD_VALUE);
        Due.is("sumOf 4, 5 and 12, where 4 and 5 have no sum", x.sumOf(48 + 4096), UNKNOWN);
        Due.is("weight(3, 3) of a half, without a weighing", Runs.chain(2).weight(3, 3), UNKNOWN);
        Due.is("range(3, 3) of a half", Runs.chain(2).range(3, 3, true), UNKNOWN);
        Due.is("weight(7, 0) of a half", Runs.chain(2).weight(7, 0), BAD_VALUE);
        Due.is("sum(0, 12)", x.sum(0, 12), UNKNOWN);
        Due.is("difference(12, 12)", x.difference(12, 12), UNKNOWN);
    }
}
