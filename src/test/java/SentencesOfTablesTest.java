/** The promises 1 to 10, sentence by sentence: at least one test for each, with the edges that it names. */
public final class SentencesOfTablesTest {
    private static final int UNKNOWN = -1;
    private static final int BAD_VALUE = -2;
    private static final int FULL = -3;
    private static final int NOT_POSSIBLE = -4;
    private static final int NONE = -5;
    private static final int LEAST = Integer.MIN_VALUE;
    private static final int MOST = Integer.MAX_VALUE;
    /** No thing of twelve; some of them would be one if their bits or a product wrapped around. */
    private static final int[] NO_THINGS = {LEAST, LEAST + 2, -144, -12, -2, -1, 12, 13, 14, 32, 34, 144, 256, 258, 1 << 16, 1 << 28, MOST};

    private SentencesOfTablesTest() {
    }

    public static void main(String[] args) {
        newObject();
        take();
        addThing();
        removeThing();
        setSum();
        clearSum();
        readSums();
        glue();
        twice();
        swap();
        for (int promise = 1; promise <= 10; promise++) {
            Doc.isAllNamed("Promise " + promise);
        }
        Due.end();
    }

    private static void newObject() {
        Doc.says("Promise 1", "Creates nothing and the whole.");
        SometimesSums x = new SometimesSums();
        Due.is("things", x.count(0), 2);
        Due.is("sums", x.count(1), 0);
        Due.is("0 + 1", x.sum(0, 1), 1);
        Due.is("no third thing", x.sum(2, 2), UNKNOWN);
        Due.is("no history", x.undo(), NONE);
        Due.is("no snapshot", x.restore(), NONE);
        Due.is("no text", x.clearText(), 0);
        SometimesSums other = new SometimesSums();
        other.addThing();
        Due.is("each object has things of its own", x.count(0), 2);
    }

    private static void take() {
        Doc.says("Promise 2", "Takes a table that is built in.");
        SometimesSums x = Runs.withSums(12, 1, 1, 11, 2, 2, 2, 11, 11, 11, 3, 4, 1);
        x.take(0, 3);
        Runs.hasJust(x, 2, 2, 3, 2, 3, 1);
        x.take(1, 2);
        Runs.hasJust(x, 2, 3, 1);
        x.take(0, 1);
        Runs.hasJust(x);
        x.addThing();
        Due.is("a thing that is added then has no sums", x.thing(2, 6), 1);
        x.take(1, 1);
        Due.is("no third thing then", x.sum(2, 0), UNKNOWN);
        Doc.says("Promise 2", "This is an act.");
        for (int m = 1; m <= 11; m++) {
            int size = m;
            Runs.isAct("take(0, " + m + ")", () -> Runs.chain(4), y -> y.take(0, size), m + 1);
        }
        for (int m = 1; m <= 3; m++) {
            int size = m;
            Runs.isAct("take(1, " + m + ")", () -> Runs.withThings(12), y -> y.take(1, size), 1 << m);
        }
        Doc.says("Promise 2", "0 for a chain, 1 for sets");
        Due.is("a half and itself", Runs.chain(3).sum(2, 2), 3);
        Due.is("a sign and itself", Runs.sets(2).sum(2, 2), NONE);
        for (int which : new int[] {LEAST, -2, -1, 2, 3, 256, MOST}) {
            for (int size : new int[] {-1, 0, 1, 3, 4, 11, 12}) {
                Due.is("take(" + which + ", " + size + ")", new SometimesSums().take(which, size), BAD_VALUE);
            }
        }
        Doc.says("Promise 2", "1 to 11, or 1 to 3");
        Doc.says("Promise 2", "Returns how many things there are; BAD_VALUE.");
        for (int size = -3; size <= 15; size++) {
            Due.is("a chain of " + size, new SometimesSums().take(0, size), size >= 1 && size <= 11 ? size + 1 : BAD_VALUE);
            Due.is("sets of " + size, new SometimesSums().take(1, size), size >= 1 && size <= 3 ? 1 << size : BAD_VALUE);
        }
        for (int size : new int[] {LEAST, LEAST + 1, 32, 33, 257, 1 << 16, MOST}) {
            Due.is("a chain of " + size, new SometimesSums().take(0, size), BAD_VALUE);
            Due.is("sets of " + size, new SometimesSums().take(1, size), BAD_VALUE);
        }
    }

    private static void addThing() {
        Doc.says("Promise 3", "Adds a thing, without any sum but that with 0.");
        SometimesSums x = Runs.chain(10);
        x.addThing();
        Due.is("its sums: with 0 alone", x.thing(11, 6), 1);
        Due.is("0 + 11", x.sum(0, 11), 11);
        Due.is("it is no sum but of 0 and itself", x.thing(11, 1), 1 + (1 << 11));
        Due.is("the other sums stay", x.count(1), 25);
        SometimesSums again = Runs.withSums(4, 3, 3, 3, 2, 3, 3);
        again.removeThing(3);
        again.addThing();
        Due.is("in the place of one that had sums", again.thing(3, 6), 1);
        Doc.says("Promise 3", "This is an act.");
        Runs.isAct("addThing() to 2", SometimesSums::new, y -> y.addThing(), 2);
        Runs.isAct("addThing() to 11", () -> Runs.chain(10), y -> y.addThing(), 11);
        Doc.says("Promise 3", "Returns its number;");
        SometimesSums all = new SometimesSums();
        for (int thing = 2; thing < 12; thing++) {
            Due.is("addThing()", all.addThing(), thing);
        }
        Doc.says("Promise 3", "FULL if there are 12.");
        Due.is("addThing() to 12", all.addThing(), FULL);
        Due.is("addThing() to 12 again", all.addThing(), FULL);
        Due.is("addThing() to the longest chain", Runs.chain(11).addThing(), FULL);
        all.removeThing(5);
        Due.is("addThing() to 11 again", all.addThing(), 11);
    }

    private static void removeThing() {
        Doc.says("Promise 4", "Removes a thing, and all sums in which it is;");
        // 3 is the one summand, the other, both, the sum, and none of these.
        SometimesSums x = Runs.withSums(6, 2, 3, 1, 3, 5, 0, 3, 3, 2, 2, 2, 3, 1, 1, 3, 4, 4, 0);
        x.removeThing(3);
        Runs.hasJust(x, 3, 3, 0);
        Doc.says("Promise 4", "those with greater numbers come one number earlier.");
        SometimesSums y = Runs.withSums(12, 1, 2, 2, 2, 3, 3, 3, 5, 6, 6, 11, 2, 11, 11, 11, 3, 10, 1, 2, 2, 0);
        y.removeThing(4);
        Runs.hasJust(y, 1, 2, 2, 2, 3, 3, 3, 4, 5, 5, 10, 2, 10, 10, 10, 3, 9, 1, 2, 2, 0);
        Due.is("the number 11 is free", y.sum(11, 0), UNKNOWN);
        SometimesSums first = Runs.withSums(4, 3, 3, 1);
        first.removeThing(2);
        Runs.hasJust(first, 2, 2, 1);
        SometimesSums last = Runs.withSums(12, 11, 11, 1, 10, 10, 1, 10, 11, 9, 9, 9, 11);
        last.removeThing(11);
        Runs.hasJust(last, 10, 10, 1);
        Doc.says("Promise 4", "This is an act.");
        Runs.isAct("removeThing(2)", () -> Runs.chain(11), z -> z.removeThing(2), 11);
        Runs.isAct("removeThing(11)", () -> Runs.chain(11), z -> z.removeThing(11), 11);
        Runs.isAct("removeThing(2) of 3", () -> Runs.withThings(3), z -> z.removeThing(2), 2);
        Doc.says("Promise 4", "a thing");
        Doc.says("Promise 4", "Returns how many things are left;");
        SometimesSums all = Runs.withThings(12);
        for (int left = 11; left >= 2; left--) {
            Due.is("removeThing(2)", all.removeThing(2), left);
        }
        Doc.says("Promise 4", "UNKNOWN;");
        Due.is("removeThing(2) of 2", all.removeThing(2), UNKNOWN);
        Due.is("removeThing(11) of 11", Runs.withThings(11).removeThing(11), UNKNOWN);
        for (int thing : NO_THINGS) {
            Due.is("removeThing(" + thing + ")", Runs.chain(11).removeThing(thing), UNKNOWN);
        }
        Doc.says("Promise 4", "NOT_POSSIBLE for 0 and 1.");
        Due.is("removeThing(0) of 2", all.removeThing(0), NOT_POSSIBLE);
        Due.is("removeThing(1) of 2", all.removeThing(1), NOT_POSSIBLE);
        Due.is("removeThing(0) of 12", Runs.chain(11).removeThing(0), NOT_POSSIBLE);
        Due.is("removeThing(1) of 12", Runs.chain(11).removeThing(1), NOT_POSSIBLE);
        Due.is("removeThing(2) is possible", Runs.chain(11).removeThing(2), 11);
    }

    private static void setSum() {
        Doc.says("Promise 5", "Gives two things a sum, in place of the one that they had, if they had one.");
        SometimesSums x = Runs.withThings(12);
        x.setSum(2, 11, 3);
        Runs.hasJust(x, 2, 11, 3);
        x.setSum(11, 2, 4);
        Runs.hasJust(x, 2, 11, 4);
        x.setSum(11, 11, 11);
        Runs.hasJust(x, 2, 11, 4, 11, 11, 11);
        x.setSum(1, 1, 0);
        Runs.hasJust(x, 2, 11, 4, 11, 11, 11, 1, 1, 0);
        Doc.says("Promise 5", "This is an act.");
        Runs.isAct("setSum(2, 2, 4) of a new sum", () -> Runs.withThings(5), y -> y.setSum(2, 2, 4), 12);
        Runs.isAct("setSum(2, 2, 4) in place of another", () -> Runs.chain(4), y -> y.setSum(2, 2, 4), 3);
        Runs.isAct("setSum(1, 1, 1)", SometimesSums::new, y -> y.setSum(1, 1, 1), 12);
        Doc.says("Promise 5", "a thing");
        Doc.says("Promise 5", "Returns the sum that they had, or 12 if they had none;");
        SometimesSums had = Runs.withThings(12);
        Due.is("none", had.setSum(11, 11, 0), 12);
        Due.is("0", had.setSum(11, 11, 1), 0);
        Due.is("1", had.setSum(11, 11, 11), 1);
        Due.is("11", had.setSum(11, 11, 10), 11);
        Due.is("none of other things", had.setSum(10, 11, 10), 12);
        had.clearSum(11, 11);
        Due.is("none again", had.setSum(11, 11, 10), 12);
        Doc.says("Promise 5", "UNKNOWN (one, other or sum);");
        for (int thing : NO_THINGS) {
            for (int there : new int[] {0, 1, 2, 11}) {
                Due.is("setSum(" + thing + ", " + there + ", 1)", had.setSum(thing, there, 1), UNKNOWN);
                Due.is("setSum(" + there + ", " + thing + ", 1)", had.setSum(there, thing, 1), UNKNOWN);
                Due.is("setSum(" + there + ", 3, " + thing + ")", had.setSum(there, 3, thing), UNKNOWN);
                Due.is("setSum(3, " + there + ", " + thing + ")", had.setSum(3, there, thing), UNKNOWN);
            }
        }
        SometimesSums few = Runs.withThings(3);
        Due.is("setSum(3, 2, 2) of 3", few.setSum(3, 2, 2), UNKNOWN);
        Due.is("setSum(2, 3, 2) of 3", few.setSum(2, 3, 2), UNKNOWN);
        Due.is("setSum(2, 2, 3) of 3", few.setSum(2, 2, 3), UNKNOWN);
        Due.is("setSum(2, 2, 2) of 3", few.setSum(2, 2, 2), 12);
        Doc.says("Promise 5", "NOT_POSSIBLE if one or other is 0;");
        Due.is("setSum(0, 2, 1)", few.setSum(0, 2, 1), NOT_POSSIBLE);
        Due.is("setSum(2, 0, 1)", few.setSum(2, 0, 1), NOT_POSSIBLE);
        Due.is("setSum(0, 0, 1)", few.setSum(0, 0, 1), NOT_POSSIBLE);
        Due.is("setSum(1, 2, 0) is possible", few.setSum(1, 2, 0), 12);
        Doc.says("Promise 5", "NONE if it is so already.");
        Due.is("setSum(1, 2, 0) again", few.setSum(1, 2, 0), NONE);
        Due.is("setSum(2, 1, 0)", few.setSum(2, 1, 0), NONE);
        Due.is("setSum(0, 2, 2): NOT_POSSIBLE comes first", few.setSum(0, 2, 2), NOT_POSSIBLE);
    }

    private static void clearSum() {
        Doc.says("Promise 6", "Takes the sum of two things away.");
        SometimesSums x = Runs.withSums(12, 2, 11, 3, 11, 11, 0, 2, 3, 11, 1, 1, 1);
        x.clearSum(11, 2);
        Runs.hasJust(x, 11, 11, 0, 2, 3, 11, 1, 1, 1);
        Due.is("2 + 11", x.sum(2, 11), NONE);
        Due.is("11 + 2", x.sum(11, 2), NONE);
        x.clearSum(11, 11);
        Runs.hasJust(x, 2, 3, 11, 1, 1, 1);
        Due.is("the things stay", x.count(0), 12);
        Doc.says("Promise 6", "This is an act.");
        Runs.isAct("clearSum(2, 2)", () -> Runs.chain(4), y -> y.clearSum(2, 2), 3);
        Doc.says("Promise 6", "a thing");
        Doc.says("Promise 6", "Returns the sum that they had;");
        SometimesSums had = Runs.withSums(12, 11, 11, 11, 11, 10, 0, 10, 10, 1, 1, 1, 5);
        Due.is("11", had.clearSum(11, 11), 11);
        Due.is("0", had.clearSum(10, 11), 0);
        Due.is("1", had.clearSum(10, 10), 1);
        Due.is("of the whole twice", had.clearSum(1, 1), 5);
        Doc.says("Promise 6", "UNKNOWN (one or other);");
        for (int thing : NO_THINGS) {
            for (int there : new int[] {0, 1, 2, 11}) {
                Due.is("clearSum(" + thing + ", " + there + ")", had.clearSum(thing, there), UNKNOWN);
                Due.is("clearSum(" + there + ", " + thing + ")", had.clearSum(there, thing), UNKNOWN);
            }
        }
        Due.is("clearSum(3, 2) of 3", Runs.withThings(3).clearSum(3, 2), UNKNOWN);
        Due.is("clearSum(2, 3) of 3", Runs.withThings(3).clearSum(2, 3), UNKNOWN);
        Doc.says("Promise 6", "NOT_POSSIBLE if one of both is 0;");
        Due.is("clearSum(0, 2)", had.clearSum(0, 2), NOT_POSSIBLE);
        Due.is("clearSum(11, 0)", had.clearSum(11, 0), NOT_POSSIBLE);
        Due.is("clearSum(0, 0)", had.clearSum(0, 0), NOT_POSSIBLE);
        Doc.says("Promise 6", "NONE if they have none.");
        Due.is("clearSum(11, 11) again", had.clearSum(11, 11), NONE);
        Due.is("clearSum(1, 1) again", had.clearSum(1, 1), NONE);
        Due.is("clearSum(2, 3), which never had one", had.clearSum(2, 3), NONE);
    }

    private static void readSums() {
        Doc.says("Promise 7", "Makes the sums of the text, which stays, one after the other.");
        SometimesSums x = Runs.withThings(12);
        Runs.read(x, "2+2=3,2+2=4,11+10=0,3+3=3,3+3,4+1=1,5+5");
        Runs.hasJust(x, 2, 2, 4, 11, 10, 0, 4, 1, 1);
        Due.is("the text stays", x.count(9), 39);
        x.clearSum(2, 2);
        Due.is("and can be read again", x.readSums(), 3);
        Runs.hasJust(x, 2, 2, 4, 11, 10, 0, 4, 1, 1);
        Runs.read(x, "2+2,2+2=5");
        Due.is("the last one holds", x.sum(2, 2), 5);
        Doc.says("Promise 7", "This is one act.");
        Runs.isAct("readSums() of five", () -> withText("2+2=2,3+3=3,2+3=2,3+2=3,3+3"), y -> y.readSums(), 3);
        Runs.isAct("readSums() of what is so already", () -> withText("2+2=3"), y -> y.readSums(), 4);
        Runs.isAct("readSums() of a sum that is not there", () -> withText("4+4"), y -> y.readSums(), 4);
        Doc.says("Promise 7", "Returns how many sums (not counting those with 0) there are then;");
        Due.is("none", Runs.withThings(3).count(1) + Runs.read(Runs.withThings(3), "2+2"), 0);
        Due.is("those that were there, too", Runs.read(Runs.chain(4), "4+4=4"), 5);
        Due.is("one in place of another", Runs.read(Runs.chain(4), "2+2=4"), 4);
        Due.is("one less", Runs.read(Runs.chain(4), "2+2"), 3);
        Due.is("2 + 3 and 3 + 2 are one", Runs.read(Runs.withThings(4), "2+3=2,3+2=2"), 1);
        Due.is("a sum that is 0 is no sum with 0", Runs.read(Runs.withThings(4), "2+3=0"), 1);
        Due.is("all of 12", Runs.read(allSums(), "11+11=11"), 66);
        Doc.says("Promise 7", "-100 minus the fault of the text if it has one (which is an error);");
        Due.is("the fault 0", Runs.read(Runs.withThings(12), ""), -100);
        Due.is("the fault 5", Runs.read(Runs.withThings(12), "2+2=3x"), -105);
        Due.is("the fault 60", Runs.read(Runs.withThings(12), "1+1,1+2,1+3,1+4,1+5,1+6,1+7,1+8,1+9,2+2,2+3,2+4,2+5,2+6,2+7,"), -160);
        Runs.changesNothing("a fault behind two sums", () -> withText("2+2=2,3+3=3,2"), y -> y.readSums(), -113);
        Doc.says("Promise 7", "UNKNOWN if there is no such thing;");
        for (String text : new String[] {"5+2=2", "2+5=2", "2+2=5", "2+2=2,5+5", "11+11=11", "0+5", "0+2=5"}) {
            Runs.changesNothing("readSums() of " + text, () -> withText(text), y -> y.readSums(), UNKNOWN);
        }
        Due.is("11 of 11 things", Runs.read(Runs.withThings(11), "11+2"), UNKNOWN);
        Due.is("11 of 12 things", Runs.read(Runs.withThings(12), "11+2"), 0);
        Due.is("2 of 2 things", Runs.read(new SometimesSums(), "1+2"), UNKNOWN);
        Doc.says("Promise 7", "NOT_POSSIBLE if a sum with 0 is told.");
        for (String text : new String[] {"0+2=2", "2+0=2", "0+0=0", "0+0", "2+0", "0+4", "2+2=2,3+0=3", "0+3,2+2=2"}) {
            Runs.changesNothing("readSums() of " + text, () -> withText(text), y -> y.readSums(), NOT_POSSIBLE);
        }
        Due.is("10 is not 0", Runs.read(Runs.withThings(12), "10+10=10"), 1);
    }

    /** A chain of the size 4, a snapshot of it, and a text. */
    private static SometimesSums withText(String text) {
        SometimesSums x = Runs.chain(4);
        x.keep();
        Runs.type(x, text);
        return x;
    }

    private static SometimesSums allSums() {
        SometimesSums x = Runs.withThings(12);
        for (int one = 1; one < 12; one++) {
            for (int other = one; other < 12; other++) {
                x.setSum(one, other, one);
            }
        }
        return x;
    }

    private static void glue() {
        Doc.says("Promise 8", "Glues a chain of a size m to the table: its nothing and its whole are those that there are;");
        SometimesSums x = Runs.withSums(4, 2, 3, 1, 2, 2, 3);
        x.glue(2);
        Runs.hasJust(x, 2, 3, 1, 2, 2, 3, 4, 4, 1);
        Doc.says("Promise 8", "its others (for the numbers 1 to m - 1) are new things, in their order, with the sums that they have in the chain.");
        x.glue(5);
        Runs.hasJust(x, 2, 3, 1, 2, 2, 3, 4, 4, 1, 5, 5, 6, 5, 6, 7, 5, 7, 8, 5, 8, 1, 6, 6, 8, 6, 7, 1);
        Due.is("8 has no sum but with 0 and 5", x.thing(8, 6), 1 + 32);
        SometimesSums longest = new SometimesSums();
        longest.glue(11);
        Due.same("the longest one, to nothing and the whole", Runs.state(longest), Runs.state(Runs.chain(11)));
        Doc.says("Promise 8", "This is an act.");
        Runs.isAct("glue(2)", () -> Runs.chain(3), y -> y.glue(2), 5);
        Runs.isAct("glue(11)", SometimesSums::new, y -> y.glue(11), 12);
        Doc.says("Promise 8", "2 to 11: the size of the chain");
        Doc.says("Promise 8", "Returns how many things there are then;");
        for (int size = 2; size <= 11; size++) {
            Due.is("glue(" + size + ") to 2", new SometimesSums().glue(size), size + 1);
        }
        Doc.says("Promise 8", "BAD_VALUE;");
        for (int size : new int[] {LEAST, LEAST + 2, LEAST + 11, -2, -1, 0, 1, 12, 13, 34, 258, MOST - 12, MOST - 2, MOST - 1, MOST}) {
            Due.is("glue(" + size + ") to 2", new SometimesSums().glue(size), BAD_VALUE);
            Due.is("glue(" + size + ") to 12", Runs.chain(11).glue(size), BAD_VALUE);
        }
        Doc.says("Promise 8", "FULL if there would be more than 12.");
        for (int things = 2; things <= 12; things++) {
            for (int size = 2; size <= 11; size++) {
                int then = things + size - 1;
                Due.is("glue(" + size + ") to " + things, Runs.withThings(things).glue(size), then <= 12 ? then : FULL);
            }
        }
    }

    private static void twice() {
        Doc.says("Promise 9", "Multiplies the table by two: a thing then stands for a pair of a thing that there was and one of 0 and 1.");
        Doc.says("Promise 9", "The pair of 0 and 0 is 0, that of 1 and 1 is 1;");
        Doc.says("Promise 9", "the others have the numbers from 2 on: first those with 0, by the things, then those with 1, by the things.");
        // Of two things: 2 is 1 with 0, 3 is 0 with 1.
        SometimesSums x = new SometimesSums();
        x.twice();
        Runs.hasJust(x, 2, 3, 1);
        // Of four: 2, 3 and 4 are 1, 2 and 3 with 0; 5, 6 and 7 are 0, 2 and 3 with 1.
        SometimesSums chain = Runs.chain(3);
        chain.twice();
        Runs.hasJust(chain, 3, 3, 4, 3, 4, 2, 3, 5, 6, 3, 6, 7, 3, 7, 1, 4, 5, 7, 4, 6, 1, 2, 5, 1);
        Doc.says("Promise 9", "Two pairs have a sum if both have one (1 and 1 have none): the pair of these.");
        // 1 + 1 is 0: the pairs 1 0 and 1 0 have the sum 0 0, 1 0 and 1 1 have 0 1, 1 1 and 1 1 have none.
        SometimesSums odd = Runs.withSums(2, 1, 1, 0);
        odd.twice();
        Runs.hasJust(odd, 2, 2, 0, 2, 3, 1, 1, 2, 3);
        SometimesSums none = Runs.withThings(6);
        none.twice();
        // 0 with 1 is 7; it has a sum with all that have 0, and there are no other sums.
        Runs.hasJust(none, 2, 7, 1, 3, 7, 8, 4, 7, 9, 5, 7, 10, 6, 7, 11);
        SometimesSums whole = Runs.withSums(3, 1, 2, 2, 1, 1, 1);
        whole.twice();
        // 1 0 is 2, 2 0 is 3, 0 1 is 4, 2 1 is 5.
        Runs.hasJust(whole, 2, 3, 3, 2, 5, 5, 1, 3, 5, 2, 2, 2, 1, 2, 1, 2, 4, 1, 3, 4, 5);
        Doc.says("Promise 9", "This is an act.");
        Runs.isAct("twice() of 2", SometimesSums::new, y -> y.twice(), 4);
        Runs.isAct("twice() of 6", () -> Runs.chain(5), y -> y.twice(), 12);
        Doc.says("Promise 9", "Returns how many things there are then;");
        Doc.says("Promise 9", "FULL if there would be more than 12.");
        for (int things = 2; things <= 12; things++) {
            Due.is("twice() of " + things, Runs.withThings(things).twice(), things <= 6 ? 2 * things : FULL);
        }
    }

    private static void swap() {
        Doc.says("Promise 10", "Exchanges two things in all sums.");
        SometimesSums x = Runs.withSums(12, 2, 2, 11, 2, 11, 1, 11, 11, 2, 2, 3, 3, 11, 4, 2, 3, 3, 0, 1, 2, 11, 5, 6, 2);
        x.swap(2, 11);
        Runs.hasJust(x, 11, 11, 2, 2, 11, 1, 2, 2, 11, 11, 3, 3, 2, 4, 11, 3, 3, 0, 1, 11, 2, 5, 6, 11);
        x.swap(11, 2);
        Runs.hasJust(x, 2, 2, 11, 2, 11, 1, 11, 11, 2, 2, 3, 3, 11, 4, 2, 3, 3, 0, 1, 2, 11, 5, 6, 2);
        Doc.says("Promise 10", "This is an act.");
        Runs.isAct("swap(2, 3)", () -> Runs.chain(4), y -> y.swap(2, 3), 4);
        Runs.isAct("swap(2, 3) without a sum", () -> Runs.withThings(4), y -> y.swap(2, 3), 0);
        Doc.says("Promise 10", "a thing");
        Doc.says("Promise 10", "Returns in how many sums (not counting those with 0) one of both is, as a summand or as the sum;");
        Due.is("as the one summand", Runs.withSums(6, 4, 2, 1, 4, 4, 4).swap(2, 3), 1);
        Due.is("as the other summand", Runs.withSums(6, 3, 4, 1, 4, 4, 4).swap(2, 3), 1);
        Due.is("as the sum", Runs.withSums(6, 4, 4, 3, 5, 5, 5).swap(2, 3), 1);
        Due.is("as both summands", Runs.withSums(6, 2, 2, 4).swap(2, 3), 1);
        Due.is("as all three", Runs.withSums(6, 2, 2, 2).swap(2, 3), 1);
        Due.is("both of them at once", Runs.withSums(6, 2, 3, 2).swap(2, 3), 1);
        Due.is("each in one", Runs.withSums(6, 2, 4, 5, 5, 5, 3).swap(2, 3), 2);
        Due.is("in none", Runs.withSums(6, 4, 4, 5, 1, 5, 0, 1, 1, 1).swap(2, 3), 0);
        Due.is("in sums with 1", Runs.withSums(12, 1, 1, 11, 1, 10, 0).swap(10, 11), 2);
        Due.is("in all", allSums().swap(2, 11), 11 + 11 - 1);
        Doc.says("Promise 10", "UNKNOWN (one or other);");
        SometimesSums full = Runs.withThings(12);
        for (int thing : NO_THINGS) {
            for (int there : new int[] {0, 1, 2, 11, thing}) {
                Due.is("swap(" + thing + ", " + there + ")", full.swap(thing, there), UNKNOWN);
                Due.is("swap(" + there + ", " + thing + ")", full.swap(there, thing), UNKNOWN);
            }
        }
        Due.is("swap(2, 3) of 3", Runs.withThings(3).swap(2, 3), UNKNOWN);
        Due.is("swap(3, 2) of 3", Runs.withThings(3).swap(3, 2), UNKNOWN);
        Doc.says("Promise 10", "NOT_POSSIBLE if one of both is 0 or 1;");
        for (int first = 0; first <= 1; first++) {
            for (int thing : new int[] {0, 1, 2, 11}) {
                Due.is("swap(" + first + ", " + thing + ")", full.swap(first, thing), NOT_POSSIBLE);
                Due.is("swap(" + thing + ", " + first + ")", full.swap(thing, first), NOT_POSSIBLE);
            }
        }
        Doc.says("Promise 10", "NONE if both are the same.");
        Due.is("swap(2, 2)", full.swap(2, 2), NONE);
        Due.is("swap(11, 11)", full.swap(11, 11), NONE);
        Due.is("swap(10, 11) is none", full.swap(10, 11), 0);
    }
}
