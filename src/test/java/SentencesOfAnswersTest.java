/** The promises 11 to 25, sentence by sentence: at least one test for each, with the edges that it names. */
public final class SentencesOfAnswersTest {
    private static final int UNKNOWN = -1;
    private static final int BAD_VALUE = -2;
    private static final int FULL = -3;
    private static final int NONE = -5;
    private static final int LEAST = Integer.MIN_VALUE;
    private static final int MOST = Integer.MAX_VALUE;
    /** No thing of twelve; some of them would be one if their bits or a product wrapped around. */
    private static final int[] NO_THINGS = {LEAST, LEAST + 2, -144, -12, -2, -1, 12, 13, 14, 32, 34, 144, 256, 258, 1 << 16, 1 << 28, MOST};
    /** No weight of the whole. */
    private static final int[] NO_WHOLES = {LEAST, LEAST + 1, -6, -2, -1, 0, 7, 8, 33, 257, 1 << 16, MOST};

    private SentencesOfAnswersTest() {
    }

    public static void main(String[] args) {
        texts();
        undo();
        snapshot();
        sum();
        difference();
        broken();
        thing();
        timesAdded();
        sumOf();
        block();
        weighings();
        weight();
        range();
        count();
        countsOfEmptyAndFull();
        answersAfterActs();
        for (int promise = 11; promise <= 25; promise++) {
            Doc.isAllNamed("Promise " + promise);
        }
        Due.end();
    }

    private static void texts() {
        Doc.says("Promise 11", "Types a character behind the text.");
        SometimesSums x = Runs.withThings(12);
        x.type('2');
        x.type('+');
        x.type('1');
        Due.is("2+1", x.readSums(), 0);
        x.type('1');
        x.type('=');
        x.type('3');
        Due.is("2+11=3", x.readSums(), 1);
        Due.is("2 + 11", x.sum(2, 11), 3);
        Doc.says("Promise 11", "any character");
        SometimesSums any = new SometimesSums();
        char[] characters = {0, 9, 10, ' ', '0', 127, 128, 255, 256, 0xD800, 0xDFFF, 0xFFFF};
        for (int i = 0; i < characters.length; i++) {
            Due.is("type((char) " + (int) characters[i] + ")", any.type(characters[i]), i + 1);
        }
        Doc.says("Promise 11", "Returns the length of the text then;");
        Doc.says("Promise 11", "FULL if it has 60 characters.");
        SometimesSums full = Runs.withThings(3);
        Runs.type(full, "1+1,1+1,1+1,1+1,1+1,1+1,1+1,1+1,1+1,1+1,1+1,1+1,1+1,1+1,1+1");
        Due.is("the character 60", full.type(','), 60);
        Due.is("the character 61", full.type('2'), FULL);
        Due.is("again", full.type('2'), FULL);
        Due.is("nothing was typed", full.readSums(), -160);
        Doc.says("Promise 12", "Empties the text.");
        full.clearText();
        Due.is("its length", full.count(9), 0);
        Due.is("its fault", full.readSums(), -100);
        Runs.type(full, "2+2=1");
        Due.is("what is typed then stands alone", full.readSums(), 1);
        Doc.says("Promise 12", "Returns the length that it had.");
        Due.is("clearText() of 5", full.clearText(), 5);
        Due.is("clearText() of the empty text", full.clearText(), 0);
        for (int length = 1; length <= 60; length++) {
            full.type('x');
        }
        Due.is("clearText() of 60", full.clearText(), 60);
        Due.is("type() behind it", full.type('x'), 1);
    }

    private static void undo() {
        Doc.says("Promise 13", "Removes and restores the latest state of the history.");
        SometimesSums x = Runs.chain(11);
        x.setSum(2, 2, 2);
        x.removeThing(2);
        x.undo();
        Due.is("twelve things again", x.count(0), 12);
        Due.is("2 + 2 is as it was then", x.sum(2, 2), 2);
        x.undo();
        Due.same("as it was before", Runs.state(x), Runs.state(Runs.chain(11)));
        x.undo();
        Due.is("nothing and the whole", x.count(0), 2);
        Due.is("1 + 1", x.sum(1, 1), NONE);
        Doc.says("Promise 13", "Returns the number of states that are left;");
        SometimesSums y = new SometimesSums();
        for (int acts = 0; acts < 5; acts++) {
            y.addThing();
        }
        for (int left = 3; left >= 0; left--) {
            Due.is("undo()", y.undo(), left);
            Due.is("count(8)", y.count(8), left);
        }
        Doc.says("Promise 13", "NONE if the history is empty.");
        Due.is("undo() of the empty history", y.undo(), NONE);
        Due.is("undo() again", y.undo(), NONE);
        Due.is("undo() of a new object", new SometimesSums().undo(), NONE);
        Due.is("the things stay", y.count(0), 3);
        y.addThing();
        Due.is("an act, then undo()", y.undo(), 0);
    }

    private static void snapshot() {
        Doc.says("Promise 14", "Takes a snapshot of the state, in place of the one that was.");
        SometimesSums x = Runs.chain(5);
        x.keep();
        x.setSum(2, 2, 2);
        x.keep();
        x.removeThing(3);
        x.restore();
        Due.is("things of the later one", x.count(0), 6);
        Due.is("2 + 2 of the later one", x.sum(2, 2), 2);
        x.setSum(2, 2, 5);
        x.restore();
        Due.is("what is set then is no part of it", x.sum(2, 2), 2);
        Doc.says("Promise 14", "Returns the number of things.");
        Due.is("keep() of 2", new SometimesSums().keep(), 2);
        Due.is("keep() of 12", Runs.withThings(12).keep(), 12);
        Due.is("keep() after a thing was removed", x.removeThing(2) - x.keep(), 0);
        Doc.says("Promise 15", "Restores the state of the snapshot, which stays.");
        SometimesSums y = Runs.withSums(12, 11, 11, 3, 1, 1, 11);
        y.keep();
        y.take(0, 1);
        y.restore();
        Runs.hasJust(y, 11, 11, 3, 1, 1, 11);
        y.removeThing(11);
        y.restore();
        Runs.hasJust(y, 11, 11, 3, 1, 1, 11);
        y.undo();
        y.undo();
        y.restore();
        Runs.hasJust(y, 11, 11, 3, 1, 1, 11);
        SometimesSums small = new SometimesSums();
        small.keep();
        small.take(1, 3);
        small.restore();
        Due.is("the thing 2 is gone", small.sum(2, 0), UNKNOWN);
        Due.is("and so are the sums", small.count(1), 0);
        small.addThing();
        Due.is("a thing that is added then has no sums", small.thing(2, 6), 1);
        Doc.says("Promise 15", "This is an act.");
        Runs.isAct("restore()", SentencesOfAnswersTest::changed, z -> z.restore(), 5);
        Runs.isAct("restore() of what is so already", SentencesOfAnswersTest::kept, z -> z.restore(), 5);
        Doc.says("Promise 15", "Returns the number of things then;");
        Due.is("restore() of 2", small.restore(), 2);
        Due.is("restore() of 12", y.restore(), 12);
        Doc.says("Promise 15", "NONE if there is no snapshot.");
        Due.is("restore() of a new object", new SometimesSums().restore(), NONE);
        SometimesSums none = Runs.chain(4);
        Due.is("restore() without keep()", none.restore(), NONE);
        Due.is("is no act", none.count(8), 1);
        Due.is("the things stay", none.count(0), 5);
    }

    private static SometimesSums kept() {
        SometimesSums x = Runs.chain(4);
        x.keep();
        return x;
    }

    private static SometimesSums changed() {
        SometimesSums x = kept();
        x.take(1, 3);
        return x;
    }

    private static void sum() {
        Doc.says("Promise 16", "a thing");
        Doc.says("Promise 16", "Returns the sum;");
        SometimesSums x = Runs.withSums(12, 2, 3, 0, 11, 11, 11, 1, 1, 1, 11, 2, 10);
        int[][] sums = {{2, 3, 0}, {3, 2, 0}, {11, 11, 11}, {1, 1, 1}, {2, 11, 10}, {11, 2, 10}, {0, 0, 0}, {0, 11, 11}, {1, 0, 1}};
        for (int[] sum : sums) {
            Due.is("sum(" + sum[0] + ", " + sum[1] + ")", x.sum(sum[0], sum[1]), sum[2]);
        }
        Doc.says("Promise 16", "UNKNOWN (one or other);");
        for (int thing : NO_THINGS) {
            for (int there : new int[] {0, 1, 2, 11, thing}) {
                Due.is("sum(" + thing + ", " + there + ")", x.sum(thing, there), UNKNOWN);
                Due.is("sum(" + there + ", " + thing + ")", x.sum(there, thing), UNKNOWN);
            }
        }
        Due.is("sum(2, 0) of 2", new SometimesSums().sum(2, 0), UNKNOWN);
        Due.is("sum(0, 2) of 2", new SometimesSums().sum(0, 2), UNKNOWN);
        Doc.says("Promise 16", "NONE if there is none.");
        Due.is("sum(2, 2)", x.sum(2, 2), NONE);
        Due.is("sum(1, 11)", x.sum(1, 11), NONE);
        Due.is("sum(1, 1) of a chain", Runs.chain(1).sum(1, 1), NONE);
    }

    private static void difference() {
        Doc.says("Promise 17", "a thing");
        Doc.says("Promise 17", "Returns the difference;");
        SometimesSums x = Runs.withSums(12, 2, 3, 1, 2, 11, 1, 11, 11, 11, 4, 4, 0, 11, 10, 2, 3, 10, 2);
        int[][] differences = {{1, 2, 3}, {1, 11, 2}, {1, 1, 0}, {0, 0, 0}, {0, 4, 4}, {11, 11, 0}, {2, 10, 3}, {2, 11, 10}, {11, 0, 11}};
        for (int[] each : differences) {
            Due.is("difference(" + each[0] + ", " + each[1] + ")", x.difference(each[0], each[1]), each[2]);
        }
        Doc.says("Promise 17", "UNKNOWN (whole or part);");
        for (int thing : NO_THINGS) {
            for (int there : new int[] {0, 1, 2, 11, thing}) {
                Due.is("difference(" + thing + ", " + there + ")", x.difference(thing, there), UNKNOWN);
                Due.is("difference(" + there + ", " + thing + ")", x.difference(there, thing), UNKNOWN);
            }
        }
        Due.is("difference(2, 0) of 2", new SometimesSums().difference(2, 0), UNKNOWN);
        Due.is("difference(0, 2) of 2", new SometimesSums().difference(0, 2), UNKNOWN);
        Doc.says("Promise 17", "NONE if it is no part of it.");
        Due.is("difference(2, 1)", x.difference(2, 1), NONE);
        Due.is("difference(0, 1)", x.difference(0, 1), NONE);
        Due.is("difference(10, 11)", x.difference(10, 11), NONE);
    }

    private static void broken() {
        Doc.says("Promise 18", "Tells of the first break.");
        Doc.says("Promise 18", "0 for the law, 1 for a, 2 for b, 3 for c");
        Doc.says("Promise 18", "Returns the number;");
        SometimesSums x = Runs.withSums(12, 10, 8, 7, 11, 7, 6);
        Due.is("broken(0)", x.broken(0), 0);
        Due.is("broken(1)", x.broken(1), 11);
        Due.is("broken(2)", x.broken(2), 8);
        Due.is("broken(3)", x.broken(3), 10);
        Doc.says("Promise 18", "BAD_VALUE;");
        for (int what : new int[] {LEAST, -4, -2, -1, 4, 5, 32, 256, MOST}) {
            Due.is("broken(" + what + ")", x.broken(what), BAD_VALUE);
            Due.is("broken(" + what + ") of a sound table", Runs.chain(2).broken(what), BAD_VALUE);
        }
        Doc.says("Promise 18", "NONE if the table is sound,");
        for (int what = 0; what <= 3; what++) {
            Due.is("broken(" + what + ") of a chain", Runs.chain(11).broken(what), NONE);
            Due.is("broken(" + what + ") of a new object", new SometimesSums().broken(what), NONE);
        }
        SometimesSums mended = Runs.withSums(6, 2, 2, 3, 3, 3, 4, 5, 5, 1);
        Due.is("broken first", mended.broken(0), 0);
        mended.take(0, 2);
        for (int what = 0; what <= 3; what++) {
            Due.is("broken(" + what + ") of what was broken before", mended.broken(what), NONE);
        }
        Doc.says("Promise 18", "and for 2 and 3 if the law is not 0.");
        SometimesSums one = Runs.withThings(3);
        Due.is("the law 1", one.broken(0), 1);
        Due.is("at 2", one.broken(1), 2);
        Due.is("b of the law 1", one.broken(2), NONE);
        Due.is("c of the law 1", one.broken(3), NONE);
        SometimesSums two = Runs.withSums(2, 1, 1, 0);
        Due.is("the law 2", two.broken(0), 2);
        Due.is("at 1", two.broken(1), 1);
        Due.is("b of the law 2", two.broken(2), NONE);
        Due.is("c of the law 2", two.broken(3), NONE);
        x.take(0, 2);
        x.addThing();
        Due.is("b of the law 1, behind a break of the law 0", x.broken(2), NONE);
    }

    private static void thing() {
        Doc.says("Promise 19", "a thing");
        Doc.says("Promise 19", "0 for its rest (NONE without one),");
        SometimesSums x = Runs.withSums(12, 2, 11, 1, 2, 10, 1, 5, 5, 1, 6, 7, 5, 7, 5, 8, 8, 8, 8, 6, 9, 11);
        int[] rests = {1, 0, 10, NONE, NONE, 5, NONE, NONE, NONE, NONE, 2, 2};
        dueOfAll(x, 0, rests);
        Doc.says("Promise 19", "1 for the things that are parts of it (as bits),");
        dueOfAll(x, 1, new int[] {1, 3 + 4 + 2048 + 1024 + 32, 5, 9, 17, 33 + 64 + 128, 65, 129, 257 + 128 + 32, 513, 1025, 2049 + 64 + 512});
        Doc.says("Promise 19", "2 for those of which it is a part (as bits),");
        dueOfAll(x, 2, new int[] {4095, 2, 6, 8, 16, 34 + 256, 64 + 32 + 2048, 128 + 32 + 256, 256, 512 + 2048, 1024 + 2, 2048 + 2});
        Doc.says("Promise 19", "3 for whether it is a smallest part (1, otherwise 0),");
        dueOfAll(x, 3, new int[] {0, 0, 1, 1, 1, 0, 1, 1, 0, 1, 1, 0});
        Doc.says("Promise 19", "4 for whether it is sharp,");
        dueOfAll(x, 4, new int[] {1, 1, 1, 0, 0, 0, 0, 0, 0, 0, 1, 1});
        Doc.says("Promise 19", "5 for the things with which it goes together (as bits; itself, too),");
        SometimesSums chains = Runs.chain(3);
        chains.glue(8);
        int one = 1 + 2 + 4 + 8;
        int other = 3 + 2048 - 16;
        dueOfAll(chains, 5, new int[] {2047, 2047, one, one, other, other, other, other, other, other, other});
        Due.is("itself, of a thing alone", Runs.withThings(12).thing(11, 5), 1 + 2048);
        Doc.says("Promise 19", "6 for the things with which it has a sum (as bits),");
        dueOfAll(x, 6, new int[] {4095, 1, 1 + 2048 + 1024, 1, 1, 1 + 32 + 128, 1 + 128 + 512, 1 + 64 + 32, 1 + 256, 1 + 64, 1 + 4, 1 + 4});
        wrongThings(x);
    }

    private static void dueOfAll(SometimesSums x, int what, int[] due) {
        for (int thing = 0; thing < due.length; thing++) {
            Due.is("thing(" + thing + ", " + what + ")", x.thing(thing, what), due[thing]);
        }
    }

    private static void wrongThings(SometimesSums x) {
        Doc.says("Promise 19", "Returns the number;");
        Due.is("thing(0, 0)", new SometimesSums().thing(0, 0), 1);
        Due.is("thing(11, 7)", x.thing(11, 7), 1);
        Doc.says("Promise 19", "UNKNOWN;");
        for (int thing : NO_THINGS) {
            for (int what = -1; what <= 8; what++) {
                Due.is("thing(" + thing + ", " + what + ")", x.thing(thing, what), UNKNOWN);
            }
        }
        Due.is("thing(2, 1) of 2", new SometimesSums().thing(2, 1), UNKNOWN);
        x.removeThing(11);
        Due.is("thing(11, 1), which is removed", x.thing(11, 1), UNKNOWN);
        Doc.says("Promise 19", "BAD_VALUE.");
        for (int what : new int[] {LEAST, -8, -2, -1, 8, 9, 32, 256, MOST}) {
            Due.is("thing(2, " + what + ")", x.thing(2, what), BAD_VALUE);
            Due.is("thing(0, " + what + ")", x.thing(0, what), BAD_VALUE);
        }
    }

    private static void timesAdded() {
        Doc.says("Promise 19", "7 for how often it can be added to itself: the greatest k up to 20 for which a, a + a, (a + a) + a, up to k times a, are there (20 if there is no end up to that)");
        int[] times = {20, 1, 11, 5, 3, 2, 2, 1, 1, 1, 1, 1};
        dueOfAll(Runs.chain(11), 7, times);
        Due.is("once, if a + a is not there", Runs.withSums(3).thing(2, 7), 1);
        Due.is("twice, if (a + a) + a is not there", Runs.withSums(4, 2, 2, 3).thing(2, 7), 2);
        Due.is("twice, if a + a is 1", Runs.withSums(3, 2, 2, 1).thing(2, 7), 2);
        Due.is("(a + a) + a, not (a + a) + (a + a)", Runs.withSums(5, 2, 2, 3, 3, 3, 4).thing(2, 7), 2);
        Due.is("round by 0", Runs.withSums(3, 2, 2, 0).thing(2, 7), 20);
        Due.is("round by itself", Runs.withSums(3, 2, 2, 2).thing(2, 7), 20);
        Due.is("round at the end", Runs.withSums(4, 2, 2, 3, 2, 3, 3).thing(2, 7), 20);
        Due.is("the whole", Runs.withSums(2, 1, 1, 1).thing(1, 7), 20);
        SometimesSums ring = Runs.chain(11);
        ring.setSum(2, 1, 0);
        Due.is("a ring of 12, nearly twice round", ring.thing(2, 7), 20);
        ring.clearSum(2, 1);
        ring.setSum(2, 1, 1);
        Due.is("eleven, and then the same", ring.thing(2, 7), 20);
    }

    private static void sumOf() {
        Doc.says("Promise 20", "Tells the sum of a set of things: of the two lowest ones, of this and the next one, and so on.");
        SometimesSums x = Runs.withSums(12, 2, 3, 11, 11, 4, 0, 11, 11, 10, 3, 4, 5, 2, 5, 6, 1, 2, 7, 7, 3, 8);
        Due.is("of 2 and 3", x.sumOf(12), 11);
        Due.is("of 2, 3 and 4: (2 + 3) + 4, not 2 + (3 + 4)", x.sumOf(28), 0);
        Due.is("of 2, 3, 4 and 11: 0 and 11", x.sumOf(28 + 2048), 11);
        Due.is("of 2, 3 and 11: 11 and 11", x.sumOf(12 + 2048), 10);
        Due.is("of 1, 2 and 3", x.sumOf(14), 8);
        Due.is("of 0, 1, 2 and 3", x.sumOf(15), 8);
        Doc.says("Promise 20", "a set of things, as bits");
        SometimesSums all = Runs.withThings(12);
        for (int thing = 1; thing < 12; thing++) {
            all.setSum(1, thing, 1);
        }
        Due.is("of all twelve", all.sumOf(4095), 1);
        Doc.says("Promise 20", "Returns the sum (0 of none, the thing of a single one);");
        Due.is("of none", x.sumOf(0), 0);
        for (int thing = 0; thing < 12; thing++) {
            Due.is("of " + thing + " alone", x.sumOf(1 << thing), thing);
            Due.is("of 0 and " + thing, x.sumOf(1 << thing | 1), thing);
        }
        Due.is("of none of a new object", new SometimesSums().sumOf(0), 0);
        Due.is("of 0 and 1", new SometimesSums().sumOf(3), 1);
        Doc.says("Promise 20", "UNKNOWN if there is no such thing;");
        for (int bit = 12; bit < 32; bit++) {
            Due.is("of the bit " + bit, x.sumOf(1 << bit), UNKNOWN);
            Due.is("of 2, 3 and the bit " + bit, x.sumOf(12 | 1 << bit), UNKNOWN);
            Due.is("of 8, 9 and the bit " + bit, x.sumOf(768 | 1 << bit), UNKNOWN);
        }
        for (int things : new int[] {-1, -2, LEAST, LEAST + 12, MOST, 4096, 8191}) {
            Due.is("of " + things, x.sumOf(things), UNKNOWN);
        }
        for (int things = 2; things < 12; things++) {
            Due.is("of the bit " + things + " of " + things, Runs.withThings(things).sumOf(1 << things), UNKNOWN);
        }
        Doc.says("Promise 20", "NONE if any sum on the way is missing.");
        Due.is("of 8 and 9", x.sumOf(768), NONE);
        Due.is("the first sum, of 3 and 5 before 11", x.sumOf(8 + 32 + 2048), NONE);
        Due.is("the last sum, of 2, 3 and 5", x.sumOf(12 + 32), NONE);
        Due.is("one in the middle: 2, 3, 5 and 11", x.sumOf(12 + 32 + 2048), NONE);
    }

    private static void block() {
        Doc.says("Promise 21", "a rank among the blocks, from 0");
        SometimesSums x = Runs.withThings(12);
        Due.is("the first: 0 and 1", x.block(0, 0), 3);
        for (int rank = 0; rank < 11; rank++) {
            Due.is("block(" + rank + ", 0)", x.block(rank, 0), 1 + (2 << rank));
        }
        Doc.says("Promise 21", "0 for the block (as bits),");
        Due.is("all of a chain", Runs.chain(11).block(0, 0), 4095);
        Due.is("all of two", new SometimesSums().block(0, 0), 3);
        Doc.says("Promise 21", "1 for its smallest parts: those of its things that are not 0, and of which no other thing of it but 0 is a part by the whole table (as bits)");
        Due.is("of a chain", Runs.chain(11).block(0, 1), 4);
        Due.is("of two", new SometimesSums().block(0, 1), 2);
        Due.is("of the last of many", x.block(10, 1), 2048);
        // 3 is 2 + 4, and goes together with 5, which does not go together with 2 and 4.
        SometimesSums y = Runs.withSums(6, 2, 4, 3, 3, 5, 1);
        Due.is("the block of 3 and 5", y.block(1, 0), 1 + 2 + 8 + 32);
        Due.is("3 has no part but 0 and itself there", y.block(1, 1), 8 + 32);
        Due.is("but in the block of 2 and 4 it has", y.block(0, 1), 4 + 16);
        Due.is("which is", y.block(0, 0), 1 + 4 + 8 + 16);
        // 2 is a part of 3 by 4, which is not in their block: 2 + 3 is 5.
        SometimesSums outside = Runs.withSums(6, 2, 4, 3, 2, 3, 5);
        Due.is("the block of 2 and 3", outside.block(outside.count(3) - 1, 0), 1 + 4 + 8 + 32);
        Due.is("2 is a part of 3 by the whole table", outside.block(outside.count(3) - 1, 1), 4);
        SometimesSums same = Runs.withSums(3, 2, 2, 2);
        Due.is("a part of itself is no other thing", same.block(1, 1), 4);
        Doc.says("Promise 21", "Returns the number;");
        Due.is("block(0, 0)", Runs.sets(2).block(0, 0), 15);
        Due.is("block(0, 1)", Runs.sets(2).block(0, 1), 12);
        Doc.says("Promise 21", "BAD_VALUE (rank is negative, or what);");
        for (int bad : new int[] {LEAST, LEAST + 1, -256, -2, -1}) {
            Due.is("block(" + bad + ", 0)", x.block(bad, 0), BAD_VALUE);
            Due.is("block(" + bad + ", 1)", x.block(bad, 1), BAD_VALUE);
            Due.is("block(0, " + bad + ")", x.block(0, bad), BAD_VALUE);
            Due.is("block(99, " + bad + ")", x.block(99, bad), BAD_VALUE);
            Due.is("block(0, " + (1 - bad) + ")", x.block(0, 1 - bad), BAD_VALUE);
            Due.is("block(99, " + (1 - bad) + ")", x.block(99, 1 - bad), BAD_VALUE);
        }
        Doc.says("Promise 21", "NONE if there are not so many.");
        Due.is("block(10, 0) of 11", x.block(10, 0), 2049);
        for (int rank : new int[] {11, 12, 32, 256, 4095, 4096, 1 << 16, MOST}) {
            Due.is("block(" + rank + ", 0) of 11", x.block(rank, 0), NONE);
            Due.is("block(" + rank + ", 1) of 11", x.block(rank, 1), NONE);
        }
        Due.is("block(1, 0) of 1", Runs.chain(11).block(1, 0), NONE);
    }

    private static void weighings() {
        Doc.says("Promise 22", "1 to 6");
        for (int k = 1; k <= 6; k++) {
            Due.is("weighings(" + k + ") of nothing and the whole", new SometimesSums().weighings(k), 1);
            Due.is("weighings(" + k + ") of a chain of " + k, Runs.chain(k).weighings(k), 1);
            Due.is("weighings(" + k + ") of a longer chain", Runs.chain(k + 1).weighings(k), 0);
            Due.is("weighings(" + k + ") of sets of 2", Runs.sets(2).weighings(k), k + 1);
        }
        Doc.says("Promise 22", "Returns how many weighings by k there are, up to 1000;");
        Due.is("none", Runs.chain(11).weighings(6), 0);
        Due.is("7 times 7 times 7", Runs.withThings(5).weighings(6), 343);
        Due.is("5 to the 4", Runs.withThings(6).weighings(4), 625);
        Due.is("2 to the 9", Runs.withThings(11).weighings(1), 512);
        Due.is("2 to the 10", Runs.withThings(12).weighings(1), 1000);
        Due.is("6 to the 4", Runs.withThings(6).weighings(5), 1000);
        Due.is("7 to the 10", Runs.withThings(12).weighings(6), 1000);
        thousand();
        besideSureWeights();
        Doc.says("Promise 22", "BAD_VALUE.");
        for (int k : NO_WHOLES) {
            Due.is("weighings(" + k + ")", Runs.chain(1).weighings(k), BAD_VALUE);
        }
    }

    /** Numbers of weighings near 1000. */
    private static void thousand() {
        // By 3: 2 + 3 = 4 has 10 weighings, and so have 5 + 6 = 7 and 8 + 9 = 10.
        SometimesSums x = Runs.withSums(11, 2, 3, 4, 5, 6, 7, 8, 9, 10);
        Due.is("ten times ten times ten", x.weighings(3), 1000);
        x.addThing();
        Due.is("four times as many", x.weighings(3), 1000);
        x.setSum(11, 11, 11);
        Due.is("1000 again", x.weighings(3), 1000);
        x.setSum(8, 10, 1);
        // 8 + 9 = 10, and 8 + 10 is 3: 0, 3, 3 and 1, 1, 2.
        Due.is("two for ten", x.weighings(3), 200);
        Due.is("3 to the 6", Runs.withThings(8).weighings(2), 729);
        Due.is("3 to the 7", Runs.withThings(9).weighings(2), 1000);
        // 2, 3, 4 and what they leave of 6: 9 over 3.
        Due.is("three things that weigh 6 at most", Runs.withSums(7, 2, 3, 5, 5, 4, 6).weighings(6), 84);
        // 1 + 16 + 81 and so on, up to k + 1 to the 4: 3, 5, 7 and 9 weigh as much as 2 leaves, each.
        Due.is("one group of 4676", Runs.withSums(11, 2, 3, 4, 2, 5, 6, 2, 7, 8, 2, 9, 10).weighings(6), 1000);
        Due.is("one group of 979", Runs.withSums(11, 2, 3, 4, 2, 5, 6, 2, 7, 8, 2, 9, 10).weighings(4), 979);
    }

    /** Sums of three things, one of which has the same weight in all weighings. */
    private static void besideSureWeights() {
        // 5 is a half of 6; 3 weighs as much and 3 more, so that 2 or 7 is 0 to 3; the other things are free.
        Due.is("2 + 5 = 3", Runs.withSums(6, 5, 5, 1, 2, 5, 3).weighings(6), 4 * 7);
        Due.is("5 + 7 = 3, where 2 and 4 are nothing", Runs.withSums(8, 5, 5, 1, 5, 7, 3, 2, 2, 2, 4, 4, 4).weighings(6), 4 * 7);
        Due.is("2 + 3 = 5", Runs.withSums(6, 5, 5, 1, 2, 3, 5).weighings(6), 4 * 7);
        Due.is("4 + 4 = 5, of 3", Runs.withSums(6, 5, 5, 1, 4, 4, 5).weighings(6), 0);
        Due.is("2 + 4 = 3, where 4 is nothing", Runs.withSums(5, 4, 4, 4, 2, 4, 3).weighings(6), 7);
        Due.is("4 + 3 = 6, where 4 is nothing", Runs.withSums(7, 4, 4, 4, 3, 4, 6).weighings(6), 7 * 7 * 7);
        Due.is("3 = 2 + 4 = 2 + 5 and 4 + 5 = 1", Runs.withSums(6, 2, 4, 3, 2, 5, 3, 4, 5, 1).weighings(6), 4);
        // 2 is what twice 3 leaves of k.
        SometimesSums odd = Runs.withSums(6, 3, 3, 4, 4, 2, 1);
        Due.is("the least odd weight", odd.range(5, 2, false), 1);
        Due.is("the greatest odd weight", odd.range(5, 2, true), 5);
        Due.is("the least even weight", odd.range(6, 2, false), 0);
        Due.is("the greatest even weight", odd.range(6, 2, true), 6);
    }

    private static void weight() {
        Doc.says("Promise 23", "Tells of the first weighing.");
        SometimesSums x = Runs.withSums(12, 2, 11, 1, 3, 3, 2, 4, 10, 11, 5, 6, 7);
        // The lowest weight of 2 is 0, then 3 is 0, 11 is k, and the lowest of 4 is 0, so that 10 is k.
        int[] due = {0, 5, 0, 0, 0, 0, 0, 0, 0, 0, 5, 5};
        for (int thing = 0; thing < 12; thing++) {
            Due.is("weight(5, " + thing + ")", x.weight(5, thing), due[thing]);
        }
        x.setSum(4, 4, 2);
        x.setSum(3, 8, 11);
        Due.is("once more: 8 is as 11", x.weight(5, 8), 5);
        Due.is("what is no 0 in any weighing", Runs.withSums(4, 2, 2, 1).weight(6, 2), 3);
        // 3 is what 2 leaves, and 4 is as 2.
        Due.is("2 first", Runs.withSums(5, 2, 3, 1, 3, 4, 1).weight(6, 2), 0);
        Due.is("then 3", Runs.withSums(5, 2, 3, 1, 3, 4, 1).weight(6, 3), 6);
        Due.is("then 4", Runs.withSums(5, 2, 3, 1, 3, 4, 1).weight(6, 4), 0);
        // The whole is 3 + 3 + 2, so that 2 is 0, 2, 4 or 6 by 6, and 1, 3 or 5 by 5.
        Due.is("an even rest", Runs.withSums(5, 3, 3, 4, 4, 2, 1).weight(6, 2), 0);
        Due.is("an odd rest", Runs.withSums(5, 3, 3, 4, 4, 2, 1).weight(5, 2), 1);
        Due.is("3 follows", Runs.withSums(5, 3, 3, 4, 4, 2, 1).weight(5, 3), 2);
        Doc.says("Promise 23", "1 to 6");
        Doc.says("Promise 23", "Returns the weight of the thing;");
        for (int k = 1; k <= 6; k++) {
            for (int number = 0; number <= k; number++) {
                int thing = number == 0 ? 0 : number == k ? 1 : number + 1;
                Due.is("weight(" + k + ", " + thing + ") of a chain of " + k, Runs.chain(k).weight(k, thing), number);
            }
        }
        Doc.says("Promise 23", "BAD_VALUE;");
        for (int k : NO_WHOLES) {
            Due.is("weight(" + k + ", 0)", x.weight(k, 0), BAD_VALUE);
            Due.is("weight(" + k + ", 12)", x.weight(k, 12), BAD_VALUE);
        }
        Doc.says("Promise 23", "a thing");
        Doc.says("Promise 23", "UNKNOWN;");
        for (int thing : NO_THINGS) {
            Due.is("weight(1, " + thing + ")", Runs.withThings(12).weight(1, thing), UNKNOWN);
            Due.is("weight(1, " + thing + ") of a half", Runs.chain(2).weight(1, thing), UNKNOWN);
        }
        Due.is("weight(1, 2) of 2", new SometimesSums().weight(1, 2), UNKNOWN);
        Doc.says("Promise 23", "NONE if there is no weighing by k.");
        for (int thing = 0; thing < 3; thing++) {
            Due.is("weight(5, " + thing + ") of a half", Runs.chain(2).weight(5, thing), NONE);
            Due.is("weight(6, " + thing + ") of a half", Runs.chain(2).weight(6, thing), new int[] {0, 6, 3}[thing]);
        }
        Due.is("weight(6, 0), the whole being nothing", Runs.withSums(2, 1, 1, 0).weight(6, 0), NONE);
        // 4 is nothing, so that 3 were 5, and 2 a half of it.
        Due.is("weight(5, 2) of a half of 5", Runs.withSums(5, 2, 2, 3, 3, 4, 1, 4, 4, 4).weight(5, 2), NONE);
    }

    private static void range() {
        Doc.says("Promise 24", "Tells the range of the weights of a thing in all weighings.");
        Doc.says("Promise 24", "whether it is the greatest weight, otherwise the least one");
        // 4 is what 2 twice leaves of k; 3 is as 2 or more.
        SometimesSums x = Runs.withSums(12, 2, 2, 3, 3, 4, 1, 2, 11, 4, 5, 6, 7);
        int[] least = {0, 6, 0, 0, 2, 0, 0, 0, 0, 0, 0, 0};
        int[] most = {0, 6, 2, 4, 6, 6, 6, 6, 6, 6, 6, 6};
        for (int thing = 0; thing < 12; thing++) {
            Due.is("range(6, " + thing + ", false)", x.range(6, thing, false), least[thing]);
            Due.is("range(6, " + thing + ", true)", x.range(6, thing, true), most[thing]);
        }
        // By 5, 4 is odd: 1, 3 and 5, and 11 is 4 less 2: 5, 3 - 1 = 2.
        Due.is("the least one by 5", x.range(5, 4, false), 3);
        Due.is("the greatest one by 5", x.range(5, 4, true), 5);
        Due.is("the least one of 11 by 5", x.range(5, 11, false), 2);
        Due.is("the greatest one of 2 by 5", x.range(5, 2, true), 1);
        // By 1, 3 is 2 and 4 together, and 2 is the rest of it: a 2 of 1 would leave nothing for 3.
        SometimesSums bound = Runs.withSums(5, 2, 3, 1, 2, 4, 3);
        Due.is("the greatest one is 0", bound.range(1, 2, true), 0);
        Due.is("the least one is k", bound.range(1, 3, false), 1);
        // The least weight may be one of a later weighing, the greatest one of the first.
        Due.is("the least is not the first", Runs.withSums(4, 2, 3, 1).range(6, 3, false), 0);
        Due.is("the greatest is the first", Runs.withSums(4, 2, 3, 1).range(6, 3, true), 6);
        Doc.says("Promise 24", "1 to 6");
        Doc.says("Promise 24", "Returns the weight;");
        for (int k = 1; k <= 6; k++) {
            Due.is("least of a free thing by " + k, Runs.withThings(3).range(k, 2, false), 0);
            Due.is("greatest of a free thing by " + k, Runs.withThings(3).range(k, 2, true), k);
            Due.is("least of the whole by " + k, new SometimesSums().range(k, 1, false), k);
            Due.is("greatest of nothing by " + k, new SometimesSums().range(k, 0, true), 0);
            Due.is("greatest of the last of twelve by " + k, Runs.withThings(12).range(k, 11, true), k);
        }
        Doc.says("Promise 24", "BAD_VALUE;");
        for (int k : NO_WHOLES) {
            Due.is("range(" + k + ", 0)", x.range(k, 0, true), BAD_VALUE);
            Due.is("range(" + k + ", 12)", x.range(k, 12, false), BAD_VALUE);
        }
        Doc.says("Promise 24", "a thing");
        Doc.says("Promise 24", "UNKNOWN;");
        for (int thing : NO_THINGS) {
            Due.is("range(1, " + thing + ")", Runs.withThings(12).range(1, thing, true), UNKNOWN);
            Due.is("range(1, " + thing + ") of a half", Runs.chain(2).range(1, thing, false), UNKNOWN);
        }
        Due.is("range(1, 2) of 2", new SometimesSums().range(1, 2, true), UNKNOWN);
        Doc.says("Promise 24", "NONE if there is no weighing by k.");
        for (int thing = 0; thing < 3; thing++) {
            Due.is("range(5, " + thing + ", false) of a half", Runs.chain(2).range(5, thing, false), NONE);
            Due.is("range(5, " + thing + ", true) of a half", Runs.chain(2).range(5, thing, true), NONE);
        }
        Due.is("range(6, 0), the whole being nothing", Runs.withSums(2, 1, 1, 0).range(6, 0, false), NONE);
        // 2 is free, and yet there is none, since 3 is a half of 5.
        Due.is("range(5, 2) of a free thing", Runs.withSums(4, 3, 3, 1).range(5, 2, true), NONE);
    }

    private static void count() {
        Doc.says("Promise 25", "0 for things,");
        Due.is("things at first", new SometimesSums().count(0), 2);
        Due.is("things of the longest chain", Runs.chain(11).count(0), 12);
        Doc.says("Promise 25", "1 for sums of two things (not counting those with 0),");
        Due.is("sums at first", new SometimesSums().count(1), 0);
        Due.is("sums of a thing and itself, of two, with 1, and one that is 0", Runs.withSums(4, 2, 2, 0, 2, 3, 1, 1, 3, 2, 1, 1, 1).count(1), 4);
        Doc.says("Promise 25", "2 for whether the table is sound (1, otherwise 0),");
        Due.is("sound", Runs.sets(3).count(2), 1);
        Due.is("not sound", Runs.withThings(3).count(2), 0);
        Doc.says("Promise 25", "3 for blocks,");
        Due.is("one block", Runs.chain(11).count(3), 1);
        Due.is("blocks of twelve things apart", Runs.withThings(12).count(3), 11);
        Due.is("a triangle: one block", Runs.withSums(5, 2, 3, 1, 3, 4, 1, 2, 4, 1).count(3), 1);
        Doc.says("Promise 25", "4 for smallest parts (as bits),");
        Due.is("smallest parts at first", new SometimesSums().count(4), 2);
        Due.is("of sets", Runs.sets(3).count(4), 4 + 8 + 32);
        Due.is("of twelve things apart", Runs.withThings(12).count(4), 4094);
        Due.is("of none but 0", Runs.withSums(3, 1, 2, 1, 2, 2, 1, 1, 1, 2).count(4), 0);
        Doc.says("Promise 25", "5 for sharp things (as bits),");
        Due.is("sharp things at first", new SometimesSums().count(5), 3);
        Due.is("of sets", Runs.sets(3).count(5), 255);
        Due.is("of a chain", Runs.chain(11).count(5), 3);
        Due.is("of twelve things apart", Runs.withThings(12).count(5), 3);
        Due.is("without 0, which has the part 2 in common with 1", Runs.withSums(4, 2, 3, 0, 2, 2, 1).count(5), 0);
        Due.is("with 0, for all its parts", Runs.withSums(4, 2, 3, 0).count(5), 3);
        Due.is("of two and two", Runs.withSums(12, 2, 11, 1, 3, 10, 1, 4, 4, 1).count(5), 3 + 4 + 8 + 1024 + 2048);
        Doc.says("Promise 25", "6 for pairs of different things that do not go together,");
        Due.is("none", Runs.chain(11).count(6), 0);
        Due.is("two", Runs.withSums(4, 2, 3, 0).count(6), 2);
        Due.is("all of twelve but those with 0", Runs.withThings(12).count(6), 55);
        Doc.says("Promise 25", "7 for how many breaks there are,");
        Due.is("no break", Runs.chain(11).count(7), 0);
        Due.is("ten things without a rest", Runs.withThings(12).count(7), 10);
        Due.is("of two laws", Runs.withSums(2, 1, 1, 1).count(7), 2);
        // 3 + (2 + 2) is there, and 3 + 2 is not; 2, 3, 4 and 5 have no rest.
        Due.is("of the laws 0 and 1", Runs.withSums(6, 2, 2, 4, 3, 4, 5).count(7), 1 + 4);
    }

    private static void countsOfEmptyAndFull() {
        Doc.says("Promise 25", "8 for the states in the history,");
        SometimesSums x = new SometimesSums();
        for (int acts = 0; acts < 6; acts++) {
            Due.is("after " + acts + " acts", x.count(8), Math.min(acts, 4));
            x.addThing();
        }
        Doc.says("Promise 25", "9 for the length of the text");
        for (int length = 0; length < 60; length++) {
            Due.is("the length " + length, x.count(9), length);
            x.type('x');
        }
        Due.is("the length 60", x.count(9), 60);
        x.type('x');
        Due.is("and no more", x.count(9), 60);
        Doc.says("Promise 25", "Returns the number;");
        int[] due = {2, 0, 1, 1, 2, 3, 0, 0, 0, 0};
        for (int what = 0; what < due.length; what++) {
            Due.is("count(" + what + ") at first", new SometimesSums().count(what), due[what]);
        }
        Doc.says("Promise 25", "BAD_VALUE.");
        for (int what : new int[] {LEAST, -10, -2, -1, 10, 11, 32, 256, 265, 1 << 16, MOST}) {
            Due.is("count(" + what + ")", x.count(what), BAD_VALUE);
        }
    }

    /** What is told is told of the table as it is then, whatever was asked of an earlier one. */
    private static void answersAfterActs() {
        Doc.says("Promise 25", "Returns the number;");
        Start[] tables = {
            () -> Runs.withSums(6, 2, 3, 0, 2, 2, 1, 1, 4, 5, 3, 3, 3), () -> Runs.chain(4), () -> Runs.withThings(4),
            () -> Runs.withSums(5, 3, 3, 1, 2, 3, 4), () -> Runs.sets(2), SometimesSums::new,
        };
        for (int first = 0; first < tables.length; first++) {
            for (int then = 0; then < tables.length; then++) {
                String due = answers(tables[then].make());
                SometimesSums x = tables[then].make();
                x.keep();
                become(x, tables[first].make());
                answers(x);
                x.restore();
                Due.same("the table " + then + " after " + first, answers(x), due);
            }
        }
        SometimesSums x = Runs.withSums(5, 2, 3, 4, 4, 4, 1);
        x.weighings(6);
        x.clearSum(2, 3);
        Due.is("a sum that is gone binds no weight", x.range(6, 2, true), 6);
        x.clearSum(4, 4);
        Due.is("nor does the other", x.weighings(6), 343);
        x.setSum(2, 2, 0);
        Due.is("2 is a part of 0", x.thing(0, 1), 5);
        x.clearSum(2, 2);
        Due.is("and no longer", x.thing(0, 1), 1);
    }

    private static void become(SometimesSums x, SometimesSums other) {
        x.take(0, 1);
        while (x.count(0) < other.count(0)) {
            x.addThing();
        }
        for (int a = 1; a < other.count(0); a++) {
            for (int b = a; b < other.count(0); b++) {
                if (other.sum(a, b) != NONE) {
                    x.setSum(a, b, other.sum(a, b));
                }
            }
        }
    }

    private static String answers(SometimesSums x) {
        StringBuilder all = new StringBuilder();
        int things = x.count(0);
        for (int thing = 0; thing < things; thing++) {
            for (int what = 0; what < 8; what++) {
                all.append(x.thing(thing, what)).append(' ');
            }
            for (int k = 5; k <= 6; k++) {
                all.append(x.weight(k, thing)).append(' ').append(x.range(k, thing, false)).append(' ').append(x.range(k, thing, true)).append("; ");
            }
        }
        for (int what = 0; what < 8; what++) {
            all.append(x.count(what)).append(' ').append(x.broken(what / 2)).append(' ').append(x.block(what / 2, what % 2)).append("; ");
        }
        return all.append(x.weighings(5)).append(' ').append(x.weighings(6)).toString();
    }
}
