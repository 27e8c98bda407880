/** What each promise says: ordinary inputs, the edges that the document names, and wrong inputs. */
public final class PromisesTest {
    private static final int UNKNOWN = -1;
    private static final int BAD_VALUE = -2;
    private static final int FULL = -3;
    private static final int NOT_POSSIBLE = -4;
    private static final int NONE = -5;
    private static final int LEAST = Integer.MIN_VALUE;
    private static final int MOST = Integer.MAX_VALUE;

    private PromisesTest() {
    }

    public static void main(String[] args) {
        constants();
        newObject();
        takeChains();
        takeSets();
        addThing();
        removeThing();
        setSum();
        clearSum();
        readSums();
        faults();
        glue();
        twice();
        swap();
        texts();
        undo();
        whatIsRecorded();
        keepAndRestore();
        sumAndDifference();
        laws();
        thing();
        thingsWithOddSums();
        sumOf();
        block();
        weighings();
        weightAndRange();
        weighingsOfManyThings();
        count();
        wrongNumbers();
        Due.end();
    }

    private static void constants() {
        Due.is("UNKNOWN", SometimesSums.UNKNOWN, -1);
        Due.is("BAD_VALUE", SometimesSums.BAD_VALUE, -2);
        Due.is("FULL", SometimesSums.FULL, -3);
        Due.is("NOT_POSSIBLE", SometimesSums.NOT_POSSIBLE, -4);
        Due.is("NONE", SometimesSums.NONE, -5);
    }

    private static void newObject() {
        SometimesSums x = new SometimesSums();
        int[] counts = {2, 0, 1, 1, 2, 3, 0, 0, 0, 0};
        for (int what = 0; what < counts.length; what++) {
            Due.is("new: count(" + what + ")", x.count(what), counts[what]);
        }
        Due.is("new: 0 + 0", x.sum(0, 0), 0);
        Due.is("new: 0 + 1", x.sum(0, 1), 1);
        Due.is("new: 1 + 0", x.sum(1, 0), 1);
        Due.is("new: 1 + 1", x.sum(1, 1), NONE);
        Due.is("new: undo()", x.undo(), NONE);
        Due.is("new: restore()", x.restore(), NONE);
        Due.is("new: readSums()", x.readSums(), -100);
        Due.is("new: broken(0)", x.broken(0), NONE);
        Due.is("new: weighings(6)", x.weighings(6), 1);
        Due.is("new: block(0, 0)", x.block(0, 0), 3);
        Due.is("new: block(1, 0)", x.block(1, 0), NONE);
    }

    private static void takeChains() {
        for (int m = 1; m <= 11; m++) {
            SometimesSums x = Runs.withThings(12);
            Due.is("take(0, " + m + ")", x.take(0, m), m + 1);
            Due.is("things of chain " + m, x.count(0), m + 1);
            Due.is("chain " + m + " is sound", x.count(2), 1);
            for (int i = 0; i <= m; i++) {
                for (int j = 0; j <= m; j++) {
                    int due = i + j <= m ? inChain(i + j, m) : NONE;
                    Due.is("chain " + m + ": " + i + " + " + j, x.sum(inChain(i, m), inChain(j, m)), due);
                }
            }
        }
        SometimesSums x = new SometimesSums();
        Due.is("take(0, 0)", x.take(0, 0), BAD_VALUE);
        Due.is("take(0, 12)", x.take(0, 12), BAD_VALUE);
        Due.is("take(-1, 1)", x.take(-1, 1), BAD_VALUE);
        Due.is("take(2, 1)", x.take(2, 1), BAD_VALUE);
        Due.is("refused take is no act", x.count(8), 0);
        Due.is("take(0, 1)", x.take(0, 1), 2);
        Due.is("take of what is there is an act", x.count(8), 1);
    }

    private static int inChain(int number, int m) {
        return number == 0 ? 0 : number == m ? 1 : number + 1;
    }

    private static void takeSets() {
        for (int m = 1; m <= 3; m++) {
            SometimesSums x = Runs.withThings(12);
            int all = (1 << m) - 1;
            Due.is("take(1, " + m + ")", x.take(1, m), all + 1);
            Due.is("sets of " + m + " are sound", x.count(2), 1);
            for (int a = 0; a <= all; a++) {
                for (int b = 0; b <= all; b++) {
                    int due = (a & b) == 0 ? inChain(a | b, all) : NONE;
                    Due.is("sets " + a + " + " + b, x.sum(inChain(a, all), inChain(b, all)), due);
                }
            }
        }
        SometimesSums x = new SometimesSums();
        Due.is("take(1, 0)", x.take(1, 0), BAD_VALUE);
        Due.is("take(1, 4)", x.take(1, 4), BAD_VALUE);
        Due.is("take(1, 11)", x.take(1, 11), BAD_VALUE);
        Due.is("refused take changes nothing", x.count(0), 2);
    }

    private static void addThing() {
        SometimesSums x = new SometimesSums();
        for (int thing = 2; thing < 12; thing++) {
            Due.is("addThing()", x.addThing(), thing);
            Due.is("0 + " + thing, x.sum(0, thing), thing);
            Due.is(thing + " has a sum with 0 only", x.thing(thing, 6), 1);
        }
        Due.is("the 13th thing", x.addThing(), FULL);
        Due.is("things then", x.count(0), 12);
        Due.is("undo of the 12th", x.undo(), 3);
        Due.is("things after it", x.count(0), 11);
        SometimesSums chain = Runs.chain(4);
        Due.is("addThing() to a chain", chain.addThing(), 5);
        Due.is("its sums stay", chain.count(1), 4);
    }

    private static void removeThing() {
        SometimesSums x = Runs.chain(5);
        Due.is("removeThing(0)", x.removeThing(0), NOT_POSSIBLE);
        Due.is("removeThing(1)", x.removeThing(1), NOT_POSSIBLE);
        Due.is("removeThing(6)", x.removeThing(6), UNKNOWN);
        Due.is("removeThing(-1)", x.removeThing(-1), UNKNOWN);
        Due.is("no act so far", x.count(8), 1);
        Due.is("removeThing(3)", x.removeThing(3), 5);
        // Left of 1 + 1 = 2, 1 + 2, 1 + 3 = 4, 1 + 4 = 5, 2 + 2, 2 + 3 are those without the 2.
        Due.is("sums left", x.count(1), 2);
        Due.is("1 + 3 = 4", x.sum(2, 3), 4);
        Due.is("1 + 4 = 5", x.sum(2, 4), 1);
        Due.is("the sum that was the removed thing", x.sum(2, 2), NONE);
        Due.is("the number that is free", x.sum(5, 0), UNKNOWN);
        Due.is("addThing() in its place", x.addThing(), 5);
        Due.is("the added one has no sums", x.thing(5, 6), 1);
        Due.is("undo() of both", x.undo() + x.undo(), 3);
        Due.is("as before", x.sum(2, 2), 3);
        SometimesSums full = Runs.withThings(12);
        full.setSum(11, 11, 11);
        full.setSum(2, 11, 10);
        Due.is("removeThing(2) of 12", full.removeThing(2), 11);
        Due.is("the last one comes earlier", full.sum(10, 10), 10);
        Due.is("one sum is left", full.count(1), 1);
        Due.is("removeThing(10), the last one", full.removeThing(10), 10);
        Due.is("no sum is left", full.count(1), 0);
    }

    private static void setSum() {
        SometimesSums x = Runs.withThings(4);
        int before = x.count(8);
        Due.is("setSum(2, 3, 1)", x.setSum(2, 3, 1), 12);
        Due.is("2 + 3", x.sum(2, 3), 1);
        Due.is("3 + 2", x.sum(3, 2), 1);
        Due.is("setSum(3, 2, 2)", x.setSum(3, 2, 2), 1);
        Due.is("2 + 3 in place of it", x.sum(2, 3), 2);
        Due.is("setSum(2, 3, 2) again", x.setSum(2, 3, 2), NONE);
        Due.is("setSum(2, 3, 0)", x.setSum(2, 3, 0), 2);
        Due.is("setSum(3, 3, 3)", x.setSum(3, 3, 3), 12);
        Due.is("what 2 + 3 was: 0", x.setSum(2, 3, 3), 0);
        Due.is("setSum(1, 1, 1)", x.setSum(1, 1, 1), 12);
        Due.is("setSum(4, 2, 2)", x.setSum(4, 2, 2), UNKNOWN);
        Due.is("setSum(2, 4, 2)", x.setSum(2, 4, 2), UNKNOWN);
        Due.is("setSum(2, 2, 4)", x.setSum(2, 2, 4), UNKNOWN);
        Due.is("setSum(2, 2, 12)", x.setSum(2, 2, 12), UNKNOWN);
        Due.is("setSum(2, 2, -1)", x.setSum(2, 2, -1), UNKNOWN);
        Due.is("setSum(0, 2, 4)", x.setSum(0, 2, 4), UNKNOWN);
        Due.is("setSum(0, 2, 2)", x.setSum(0, 2, 2), NOT_POSSIBLE);
        Due.is("setSum(2, 0, 3)", x.setSum(2, 0, 3), NOT_POSSIBLE);
        Due.is("setSum(0, 0, 0)", x.setSum(0, 0, 0), NOT_POSSIBLE);
        Due.is("0 + 2 stays", x.sum(0, 2), 2);
        Due.is("three sums", x.count(1), 3);
        Due.is("two acts before", before, 2);
        Due.is("undo() of setSum(1, 1, 1)", x.undo(), 3);
        Due.is("1 + 1 is gone", x.sum(1, 1), NONE);
    }

    private static void clearSum() {
        SometimesSums x = Runs.chain(4);
        Due.is("clearSum(3, 2)", x.clearSum(3, 2), 4);
        Due.is("2 + 3", x.sum(2, 3), NONE);
        Due.is("3 + 2", x.sum(3, 2), NONE);
        Due.is("clearSum(2, 3) again", x.clearSum(2, 3), NONE);
        Due.is("NONE is no act", x.count(8), 2);
        Due.is("clearSum(3, 3)", x.clearSum(3, 3), 1);
        Due.is("clearSum(5, 2)", x.clearSum(5, 2), UNKNOWN);
        Due.is("clearSum(2, 5)", x.clearSum(2, 5), UNKNOWN);
        Due.is("clearSum(0, 5)", x.clearSum(0, 5), UNKNOWN);
        Due.is("clearSum(0, 2)", x.clearSum(0, 2), NOT_POSSIBLE);
        Due.is("clearSum(2, 0)", x.clearSum(2, 0), NOT_POSSIBLE);
        Due.is("clearSum(1, 1)", x.clearSum(1, 1), NONE);
        Due.is("two sums are left", x.count(1), 2);
    }

    private static void readSums() {
        SometimesSums x = Runs.withThings(5);
        Due.is("2+3=1", Runs.read(x, "2+3=1"), 1);
        Due.is("the text stays", x.count(9), 5);
        Due.is("read again, with nothing new", x.readSums(), 1);
        Due.is("which is an act, too", x.count(8), 4);
        Due.is("one after the other", Runs.read(x, "2+2=3,2+2=4,3+3=0"), 3);
        Due.is("the later one holds", x.sum(2, 2), 4);
        Due.is("3 + 3", x.sum(3, 3), 0);
        Due.is("without '='", Runs.read(x, "3+2,1+1=1"), 3);
        Due.is("3 + 2", x.sum(3, 2), NONE);
        Due.is("undo() of two sums at once", x.undo(), 3);
        Due.is("1 + 1", x.sum(1, 1), NONE);
        Due.is("2 + 3 is back", x.sum(2, 3), 1);
        Due.is("a sum that is not there", Runs.read(x, "4+4"), 3);
        int states = x.count(8);
        Due.is("5 is no thing", Runs.read(x, "2+2=2,5+2"), UNKNOWN);
        Due.is("nor behind '+'", Runs.read(x, "2+5"), UNKNOWN);
        Due.is("nor behind '='", Runs.read(x, "2+2=5"), UNKNOWN);
        Due.is("UNKNOWN comes first", Runs.read(x, "0+2=2,2+11"), UNKNOWN);
        Due.is("the fault comes before it", Runs.read(x, "0+2=2,2+11,"), -111);
        Due.is("a sum with 0", Runs.read(x, "2+2=2,0+2=2"), NOT_POSSIBLE);
        Due.is("a sum with 0 behind", Runs.read(x, "2+0"), NOT_POSSIBLE);
        Due.is("2 + 2 is as it was", x.sum(2, 2), 4);
        Due.is("nothing was recorded", x.count(8), states);
        SometimesSums full = Runs.withThings(12);
        Due.is("10 and 11 are things", Runs.read(full, "10+11=9,11+11=10,1+10=11"), 3);
        Due.is("10 + 11", full.sum(10, 11), 9);
        Due.is("11 + 11", full.sum(11, 11), 10);
        Due.is("1 + 10", full.sum(1, 10), 11);
        Due.is("15 sums", Runs.read(full, "1+2,1+3,1+4,1+5,1+6,1+7,1+8,1+9,2+2,2+3,2+4,2+5,2+6,2+7,2+8"), 3);
        Due.is("59 characters", full.count(9), 59);
        full.type(',');
        Due.is("60 that end too early", full.readSums(), -160);
    }

    private static void faults() {
        String[] texts = {
            "", "2", "+", "2+", "2+2=", "2+2,", "2+2=2,", "=", ",", "2=", "2,", "2++", "2+2+", "2+2=2=", "2+2=2+",
            "2+2,,", "2+=", "02", "00", "12", "1a", "20", "110", "100", "2+12", "2+20", "2+00", "2+01", "2+2=12", "2+2=01",
            "2+2=20", "10+11=110", "2 +2", " ", "2+2 ", "2+2\n", "2+-2", "a", "2+2=2,02", "2+2=2,12",
            "/", ":", "1/", "1:", "2+2=2;", "2+2=2,2+2=2,2+2=2,", "2+2,2=", "10", "1", "0", "0+0,",
            Character.toString(0x0662), Character.toString(0xFF12), "2" + (char) 0,
        };
        int[] due = {
            0, 1, 0, 2, 4, 4, 6, 0, 0, 1, 1, 2, 3, 5, 5,
            4, 2, 1, 1, 1, 1, 1, 2, 2, 3, 3, 3, 3, 5, 5,
            5, 8, 1, 0, 3, 3, 2, 0, 7, 7,
            0, 0, 1, 1, 5, 18, 5, 2, 1, 1, 4,
            0, 0, 1,
        };
        for (int i = 0; i < texts.length; i++) {
            SometimesSums x = Runs.withThings(12);
            Due.is("fault of '" + texts[i] + "'", Runs.read(x, texts[i]), -100 - due[i]);
            Due.is("sums after the fault", x.count(1), 0);
        }
        for (int c = 0; c < 65536; c++) {
            boolean fine = c >= '0' && c <= '9' || c == '+' || c == ',' || c == '=';
            if (!fine) {
                SometimesSums x = new SometimesSums();
                x.type((char) c);
                Due.is("character " + c, x.readSums(), -100);
            }
        }
    }

    private static void glue() {
        SometimesSums x = Runs.chain(3);
        Due.is("glue(4)", x.glue(4), 7);
        int[][] sums = {{4, 4, 5}, {4, 5, 6}, {4, 6, 1}, {5, 5, 1}, {5, 6, NONE}, {2, 2, 3}, {2, 3, 1}, {2, 4, NONE}, {1, 4, NONE}};
        for (int[] sum : sums) {
            Due.is(sum[0] + " + " + sum[1], x.sum(sum[0], sum[1]), sum[2]);
        }
        Due.is("0 + 6", x.sum(0, 6), 6);
        Due.is("sums of both", x.count(1), 6);
        Due.is("glue(1)", x.glue(1), BAD_VALUE);
        Due.is("glue(12)", x.glue(12), BAD_VALUE);
        Due.is("glue(-4)", x.glue(-4), BAD_VALUE);
        Due.is("glue(7)", x.glue(7), FULL);
        Due.is("glue(6)", x.glue(6), 12);
        Due.is("glue(2) of 12", x.glue(2), FULL);
        Due.is("acts", x.count(8), 3);
        SometimesSums empty = new SometimesSums();
        Due.is("glue(11)", empty.glue(11), 12);
        Due.is("is the chain", Runs.table(empty).equals(Runs.table(Runs.chain(11))) ? 1 : 0, 1);
        SometimesSums two = new SometimesSums();
        Due.is("glue(2)", two.glue(2), 3);
        Due.is("2 + 2", two.sum(2, 2), 1);
        Due.is("glue(11) of 3", two.glue(11), FULL);
    }

    private static void twice() {
        SometimesSums x = Runs.chain(2);
        Due.is("twice()", x.twice(), 6);
        // The pairs: 0 is 0 0, 1 is 1 1, 2 is 1 0, 3 is 2 0, 4 is 0 1, 5 is 2 1.
        int[][] sums = {{3, 3, 2}, {3, 5, 1}, {3, 4, 5}, {2, 4, 1}, {5, 5, NONE}, {4, 4, NONE}, {4, 5, NONE}, {2, 2, NONE}, {2, 3, NONE}};
        for (int[] sum : sums) {
            Due.is(sum[0] + " + " + sum[1], x.sum(sum[0], sum[1]), sum[2]);
        }
        Due.is("sums then", x.count(1), 4);
        Due.is("twice() of 6", x.twice(), 12);
        Due.is("is sound", x.count(2), 1);
        Due.is("twice() of 12", x.twice(), FULL);
        Due.is("acts", x.count(8), 3);
        Due.is("undo()", x.undo(), 2);
        Due.is("6 things again", x.count(0), 6);
        Due.is("twice() of 7", Runs.withThings(7).twice(), FULL);
        SometimesSums odd = new SometimesSums();
        odd.setSum(1, 1, 0);
        Due.is("twice() of 2", odd.twice(), 4);
        // 1 0 and 1 0 are 0 0, and 1 0 and 1 1 are 0 1.
        Due.is("2 + 2", odd.sum(2, 2), 0);
        Due.is("1 + 2", odd.sum(1, 2), 3);
        Due.is("2 + 3", odd.sum(2, 3), 1);
        Due.is("1 + 1", odd.sum(1, 1), NONE);
        Due.is("sums of the odd one", odd.count(1), 3);
    }

    private static void swap() {
        SometimesSums x = Runs.chain(4);
        x.addThing();
        Due.is("swap(2, 5)", x.swap(2, 5), 3);
        Due.is("5 + 5", x.sum(5, 5), 3);
        Due.is("3 + 5", x.sum(3, 5), 4);
        Due.is("4 + 5", x.sum(4, 5), 1);
        Due.is("2 has none", x.thing(2, 6), 1);
        Due.is("0 + 2", x.sum(0, 2), 2);
        Due.is("swap(3, 4)", x.swap(3, 4), 4);
        Due.is("the sum is exchanged, too", x.sum(5, 5), 4);
        Due.is("swap(2, 2)", x.swap(2, 2), NONE);
        Due.is("swap(0, 0)", x.swap(0, 0), NOT_POSSIBLE);
        Due.is("swap(1, 1)", x.swap(1, 1), NOT_POSSIBLE);
        Due.is("swap(0, 2)", x.swap(0, 2), NOT_POSSIBLE);
        Due.is("swap(2, 1)", x.swap(2, 1), NOT_POSSIBLE);
        Due.is("swap(0, 6)", x.swap(0, 6), UNKNOWN);
        Due.is("swap(6, 6)", x.swap(6, 6), UNKNOWN);
        Due.is("swap(-1, 2)", x.swap(-1, 2), UNKNOWN);
        Due.is("acts", x.count(8), 4);
        SometimesSums none = Runs.withThings(4);
        Due.is("swap(2, 3) without sums", none.swap(2, 3), 0);
        Due.is("is an act all the same", none.count(8), 3);
        SometimesSums odd = Runs.withThings(4);
        odd.setSum(1, 1, 2);
        odd.setSum(2, 3, 3);
        Due.is("a sum with both counts once", odd.swap(2, 3), 2);
        Due.is("1 + 1", odd.sum(1, 1), 3);
        Due.is("3 + 2", odd.sum(3, 2), 2);
    }

    private static void texts() {
        SometimesSums x = new SometimesSums();
        Due.is("clearText() of the empty text", x.clearText(), 0);
        for (int length = 1; length <= 60; length++) {
            Due.is("type()", x.type((char) (length * 1000)), length);
            Due.is("its length", x.count(9), length);
        }
        Due.is("the 61st character", x.type('2'), FULL);
        Due.is("the length stays", x.count(9), 60);
        Due.is("texts are no acts", x.count(8), 0);
        Due.is("clearText() of 60", x.clearText(), 60);
        Due.is("clearText() again", x.clearText(), 0);
        Due.is("type() again", x.type((char) 0), 1);
        Due.is("type() behind it", x.type((char) 65535), 2);
        SometimesSums behind = Runs.withThings(3);
        Runs.type(behind, "2+2");
        Due.is("read 2+2", behind.readSums(), 0);
        Runs.type(behind, "=1");
        Due.is("read 2+2=1", behind.readSums(), 1);
        Due.is("undo()", behind.undo(), 2);
        Due.is("the text is no part of the state", behind.count(9), 5);
    }

    private static void undo() {
        SometimesSums x = new SometimesSums();
        for (int thing = 2; thing < 8; thing++) {
            x.addThing();
            Due.is("states after " + thing, x.count(8), Math.min(4, thing - 1));
        }
        for (int left = 3; left >= 0; left--) {
            Due.is("undo()", x.undo(), left);
            Due.is("things then", x.count(0), left + 4);
        }
        Due.is("undo() of nothing", x.undo(), NONE);
        Due.is("things stay", x.count(0), 4);
        x.setSum(2, 2, 3);
        x.setSum(2, 2, 2);
        Due.is("undo() of a sum", x.undo(), 1);
        Due.is("2 + 2", x.sum(2, 2), 3);
        x.setSum(3, 3, 1);
        Due.is("states", x.count(8), 2);
        Due.is("undo() once more", x.undo(), 1);
        Due.is("3 + 3", x.sum(3, 3), NONE);
        Due.is("undo() of the first sum", x.undo(), 0);
        Due.is("no sums", x.count(1), 0);
    }

    private static void whatIsRecorded() {
        String[] names = {"take", "addThing", "removeThing", "setSum", "clearSum", "readSums", "glue", "twice", "swap", "restore"};
        for (int act = 0; act < names.length; act++) {
            SometimesSums x = Runs.chain(4);
            x.keep();
            x.setSum(4, 4, 2);
            x.undo();
            x.undo();
            x.restore();
            x.undo();
            x.take(0, 4);
            Runs.type(x, "2+2=2");
            String before = Runs.table(x);
            doAct(x, act);
            Due.is(names[act] + " records a state", x.count(8), 2);
            Due.is(names[act] + ": undo()", x.undo(), 1);
            Due.is(names[act] + ": as before", Runs.table(x).equals(before) ? 1 : 0, 1);
        }
        SometimesSums x = Runs.chain(4);
        x.keep();
        x.type('a');
        x.clearText();
        for (int what = 0; what < 10; what++) {
            x.count(what);
            x.thing(2, what);
            x.weighings(what);
            x.block(what, 0);
        }
        Due.is("nothing else does", x.count(8), 1);
    }

    private static void doAct(SometimesSums x, int act) {
        switch (act) {
            case 0 -> x.take(1, 3);
            case 1 -> x.addThing();
            case 2 -> x.removeThing(3);
            case 3 -> x.setSum(2, 4, 0);
            case 4 -> x.clearSum(2, 4);
            case 5 -> x.readSums();
            case 6 -> x.glue(3);
            case 7 -> x.twice();
            case 8 -> x.swap(3, 4);
            default -> x.restore();
        }
    }

    private static void keepAndRestore() {
        SometimesSums x = Runs.chain(3);
        Due.is("restore() of nothing", x.restore(), NONE);
        Due.is("which is no act", x.count(8), 1);
        Due.is("keep()", x.keep(), 4);
        String kept = Runs.table(x);
        Due.is("keep() is no act", x.count(8), 1);
        x.setSum(3, 3, 3);
        x.addThing();
        Due.is("restore()", x.restore(), 4);
        Due.is("as kept", Runs.table(x).equals(kept) ? 1 : 0, 1);
        Due.is("restore() is an act", x.count(8), 4);
        Due.is("undo() of it", x.undo(), 3);
        Due.is("things after undo()", x.count(0), 5);
        x.clearSum(2, 2);
        Due.is("the snapshot stays", x.restore(), 4);
        Due.is("2 + 2", x.sum(2, 2), 3);
        Due.is("restore() of the same is an act", x.restore(), 4);
        Due.is("undo()", x.undo(), 3);
        x.take(1, 3);
        Due.is("keep() in place of it", x.keep(), 8);
        x.take(0, 1);
        Due.is("restore() of the later one", x.restore(), 8);
        Due.is("2 + 3", x.sum(2, 3), 4);
        Runs.type(x, "2+");
        x.restore();
        Due.is("the text is no part of it", x.count(9), 2);
        x.undo();
        x.undo();
        Due.is("undo() leaves the snapshot", x.restore(), 8);
    }

    private static void sumAndDifference() {
        SometimesSums x = Runs.chain(4);
        Due.is("sum(2, 3)", x.sum(2, 3), 4);
        Due.is("sum(3, 4)", x.sum(3, 4), NONE);
        Due.is("sum(5, 0)", x.sum(5, 0), UNKNOWN);
        Due.is("sum(0, 5)", x.sum(0, 5), UNKNOWN);
        Due.is("sum(-1, 0)", x.sum(-1, 0), UNKNOWN);
        Due.is("sum(0, -1)", x.sum(0, -1), UNKNOWN);
        Due.is("difference(1, 2)", x.difference(1, 2), 4);
        Due.is("difference(4, 3)", x.difference(4, 3), 2);
        Due.is("difference(3, 4)", x.difference(3, 4), NONE);
        Due.is("difference(2, 2)", x.difference(2, 2), 0);
        Due.is("difference(2, 0)", x.difference(2, 0), 2);
        Due.is("difference(0, 2)", x.difference(0, 2), NONE);
        Due.is("difference(5, 2)", x.difference(5, 2), UNKNOWN);
        Due.is("difference(2, 5)", x.difference(2, 5), UNKNOWN);
        Due.is("difference(2, -1)", x.difference(2, -1), UNKNOWN);
        SometimesSums y = Runs.withThings(5);
        y.setSum(2, 4, 1);
        y.setSum(2, 3, 1);
        Due.is("the least difference", y.difference(1, 2), 3);
        y.setSum(2, 2, 2);
        Due.is("0 is less", y.difference(2, 2), 0);
        y.setSum(3, 3, 0);
        Due.is("difference(0, 3)", y.difference(0, 3), 3);
    }

    private static void laws() {
        SometimesSums x = Runs.sets(3);
        Due.is("count(2) of sets", x.count(2), 1);
        for (int what = 0; what < 4; what++) {
            Due.is("broken(" + what + ") of sets", x.broken(what), NONE);
        }
        x.clearSum(2, 3);
        dueBreak(x, 0, 2, 3, 5);
        Due.is("count(2) of broken sets", x.count(2), 0);
        Due.is("broken(-1)", x.broken(-1), BAD_VALUE);
        Due.is("broken(4)", x.broken(4), BAD_VALUE);
        SometimesSums rests = Runs.withThings(4);
        dueBreak(rests, 1, 2, NONE, NONE);
        Due.is("two things without a rest", rests.count(7), 2);
        rests.setSum(2, 2, 1);
        dueBreak(rests, 1, 3, NONE, NONE);
        rests.setSum(3, 3, 1);
        Due.is("sound then", rests.count(2), 1);
        rests.setSum(2, 3, 1);
        // 2 + (2 + 3) and the like are not there, so that only the rests are two each.
        dueBreak(rests, 1, 2, NONE, NONE);
        Due.is("both have two rests", rests.count(7), 2);
        SometimesSums beyond = Runs.chain(2);
        beyond.setSum(1, 1, 2);
        // 1 + (2 + 2) is 2, and 2 + (2 + 1) is not there: (2 + 2) + 1 breaks the law 0, too.
        dueBreak(beyond, 0, 1, 2, 2);
        SometimesSums whole = new SometimesSums();
        whole.setSum(1, 1, 0);
        dueBreak(whole, 2, 1, NONE, NONE);
        Due.is("one break", whole.count(7), 1);
        whole.setSum(1, 1, 1);
        dueBreak(whole, 1, 1, NONE, NONE);
        Due.is("the laws 1 and 2", whole.count(7), 2);
        SometimesSums other = Runs.withThings(3);
        other.setSum(2, 2, 1);
        other.setSum(1, 2, 0);
        Due.is("the law 2 at 2, not at 1", other.broken(0), 0);
        Due.is("at 1, 1 and 2", other.broken(1) * 100 + other.broken(2) * 10 + other.broken(3), 112);
        SometimesSums differs = Runs.withThings(5);
        differs.setSum(2, 3, 4);
        differs.setSum(2, 4, 1);
        differs.setSum(2, 2, 3);
        differs.setSum(3, 3, 2);
        // 2 + (2 + 3) is 1, and (2 + 2) + 3 is 2.
        dueBreak(differs, 0, 2, 2, 3);
    }

    private static void dueBreak(SometimesSums x, int law, int a, int b, int c) {
        Due.is("the law", x.broken(0), law);
        Due.is("a", x.broken(1), a);
        Due.is("b", x.broken(2), b);
        Due.is("c", x.broken(3), c);
    }

    private static void thing() {
        SometimesSums x = Runs.chain(3);
        x.glue(2);
        // The things: 0, 1, 2 and 3 of the chain, 4 the half.
        int[][] due = {
            {1, 1, 31, 0, 1, 31, 31, 20},
            {0, 31, 2, 0, 1, 31, 1, 1},
            {3, 5, 14, 1, 0, 15, 13, 3},
            {2, 13, 10, 0, 0, 15, 5, 1},
            {4, 17, 18, 1, 0, 19, 17, 2},
        };
        for (int thing = 0; thing < due.length; thing++) {
            for (int what = 0; what < 8; what++) {
                Due.is("thing(" + thing + ", " + what + ")", x.thing(thing, what), due[thing][what]);
            }
        }
        Due.is("thing(5, 0)", x.thing(5, 0), UNKNOWN);
        Due.is("thing(-1, 0)", x.thing(-1, 0), UNKNOWN);
        Due.is("thing(5, 8)", x.thing(5, 8), UNKNOWN);
        Due.is("thing(0, 8)", x.thing(0, 8), BAD_VALUE);
        Due.is("thing(0, -1)", x.thing(0, -1), BAD_VALUE);
        SometimesSums sets = Runs.sets(2);
        for (int thing = 0; thing < 4; thing++) {
            Due.is("sets are sharp", sets.thing(thing, 4), 1);
            Due.is("sets go together", sets.thing(thing, 5), 15);
        }
        SometimesSums chain = Runs.chain(11);
        Due.is("eleven times", chain.thing(2, 7), 11);
        Due.is("five times", chain.thing(3, 7), 5);
    }

    private static void thingsWithOddSums() {
        SometimesSums x = Runs.withThings(6);
        Due.is("no rest", x.thing(2, 0), NONE);
        Due.is("not sharp without a rest", x.thing(2, 4), 0);
        Due.is("a smallest part all the same", x.thing(2, 3), 1);
        x.setSum(2, 5, 1);
        x.setSum(2, 4, 1);
        Due.is("the least rest", x.thing(2, 0), 4);
        Due.is("sharp", x.thing(2, 4), 1);
        x.setSum(2, 2, 0);
        Due.is("2 is a part of 0", x.thing(0, 1), 5);
        Due.is("2 is a part of 0, told of 2", x.thing(2, 2), 7);
        Due.is("0 is no smallest part", x.thing(0, 3), 0);
        Due.is("0 and 1 have the part 2 in common", x.thing(0, 4), 0);
        Due.is("2 + 2 is 0, 0 + 2 is 2, without end", x.thing(2, 7), 20);
        x.setSum(3, 3, 3);
        Due.is("3 + 3 is 3", x.thing(3, 7), 20);
        Due.is("a part of itself is no other part", x.thing(3, 3), 1);
        x.setSum(4, 4, 5);
        x.setSum(4, 5, 4);
        Due.is("round and round", x.thing(4, 7), 20);
        Due.is("parts of one another", x.thing(4, 3) + x.thing(5, 3), 0);
    }

    private static void sumOf() {
        SometimesSums x = Runs.chain(4);
        Due.is("sumOf of none", x.sumOf(0), 0);
        for (int thing = 0; thing < 5; thing++) {
            Due.is("sumOf of " + thing, x.sumOf(1 << thing), thing);
        }
        Due.is("sumOf of 2 and 3", x.sumOf(12), 4);
        Due.is("sumOf of 2 and 4", x.sumOf(20), 1);
        Due.is("sumOf of 0 and 2 and 3", x.sumOf(13), 4);
        Due.is("sumOf of 3 and 4", x.sumOf(24), NONE);
        Due.is("sumOf of 2, 3 and 4", x.sumOf(28), NONE);
        Due.is("sumOf of 5", x.sumOf(32), UNKNOWN);
        Due.is("sumOf of 3, 4 and 5", x.sumOf(56), UNKNOWN);
        Due.is("sumOf of all bits", x.sumOf(-1), UNKNOWN);
        Due.is("sumOf of the last bit", x.sumOf(LEAST), UNKNOWN);
        SometimesSums y = Runs.withThings(12);
        y.setSum(2, 3, 11);
        y.setSum(4, 11, 0);
        y.setSum(3, 4, 5);
        Due.is("the lowest first", y.sumOf(28), 0);
        Due.is("then the next", y.sumOf(28 + (1 << 11)), 11);
        Due.is("a later sum that is missing", y.sumOf(28 + 32 + 64), NONE);
        Due.is("12 is no thing of 12", y.sumOf(1 << 12), UNKNOWN);
    }

    private static void block() {
        SometimesSums x = Runs.chain(3);
        x.glue(2);
        x.glue(2);
        Due.is("blocks", x.count(3), 3);
        int[] blocks = {15, 19, 35};
        int[] parts = {4, 16, 32};
        for (int rank = 0; rank < 3; rank++) {
            Due.is("block(" + rank + ", 0)", x.block(rank, 0), blocks[rank]);
            Due.is("block(" + rank + ", 1)", x.block(rank, 1), parts[rank]);
        }
        Due.is("block(3, 0)", x.block(3, 0), NONE);
        Due.is("block(3, 1)", x.block(3, 1), NONE);
        Due.is("block(3, 2)", x.block(3, 2), BAD_VALUE);
        Due.is("block(-1, 0)", x.block(-1, 0), BAD_VALUE);
        Due.is("block(0, -1)", x.block(0, -1), BAD_VALUE);
        Due.is("block(MOST, 0)", x.block(MOST, 0), NONE);
        SometimesSums apart = Runs.withThings(12);
        // 10 things that go together only with 0: a block each, and one with the whole.
        Due.is("blocks of 12 things", apart.count(3), 11);
        Due.is("the first block", apart.block(0, 0), 3);
        Due.is("the last block", apart.block(10, 0), 2049);
        Due.is("its smallest part", apart.block(10, 1), 2048);
        SometimesSums outside = Runs.withThings(6);
        // 3 has the part 2, which does not go together with 5.
        outside.setSum(2, 4, 3);
        outside.setSum(3, 5, 1);
        Due.is("blocks", outside.count(3), 2);
        Due.is("the block of 2", outside.block(0, 0), 29);
        Due.is("its smallest parts", outside.block(0, 1), 20);
        Due.is("the block of 5", outside.block(1, 0), 43);
        Due.is("3 has no part but itself within it", outside.block(1, 1), 40);
        Due.is("3 is no smallest part of the table", outside.thing(3, 3), 0);
        SometimesSums nothing = Runs.withThings(4);
        nothing.setSum(2, 3, 0);
        Due.is("2 and 3 are parts of nothing", nothing.thing(0, 1), 13);
        Due.is("and nothing else of 2", nothing.thing(2, 1), 5);
        Due.is("all of its block but nothing", nothing.block(0, 1), nothing.block(0, 0) & ~1);
    }

    private static void weighings() {
        SometimesSums x = Runs.chain(4);
        int[] due = {0, 0, 0, 1, 0, 0};
        for (int k = 1; k <= 6; k++) {
            Due.is("weighings(" + k + ") of a chain", x.weighings(k), due[k - 1]);
        }
        Due.is("weighings(0)", x.weighings(0), BAD_VALUE);
        Due.is("weighings(7)", x.weighings(7), BAD_VALUE);
        Due.is("weighings(-1)", x.weighings(-1), BAD_VALUE);
        SometimesSums sets = Runs.sets(3);
        // The three signs share the whole weight.
        for (int k = 1; k <= 6; k++) {
            Due.is("weighings(" + k + ") of sets", sets.weighings(k), (k + 1) * (k + 2) / 2);
        }
        int power = 1;
        for (int things = 3; things <= 12; things++) {
            power = Math.min(1000, power * 2);
            Due.is("weighings(1) of " + things, Runs.withThings(things).weighings(1), power);
        }
        Due.is("up to 1000", Runs.withThings(6).weighings(5), 1000);
        Due.is("weighings(6) of 12", Runs.withThings(12).weighings(6), 1000);
        Due.is("343", Runs.withThings(5).weighings(6), 343);
        SometimesSums beyond = new SometimesSums();
        beyond.setSum(1, 1, 1);
        Due.is("the whole beyond the whole", beyond.weighings(3), 0);
        beyond.setSum(1, 1, 0);
        Due.is("the whole is no nothing", beyond.weighings(3), 0);
        SometimesSums nothing = Runs.withThings(4);
        nothing.setSum(2, 3, 0);
        Due.is("both weigh nothing", nothing.weighings(6), 1);
    }

    private static void weightAndRange() {
        SometimesSums x = Runs.sets(3);
        // 2, 3 and 5 are the signs; the first weighing gives all to the last one.
        int[] first = {0, 4, 0, 0, 0, 4, 4, 4};
        for (int thing = 0; thing < 8; thing++) {
            Due.is("weight(4, " + thing + ")", x.weight(4, thing), first[thing]);
            Due.is("least weight of " + thing, x.range(4, thing, false), thing == 1 ? 4 : 0);
            Due.is("greatest weight of " + thing, x.range(4, thing, true), thing == 0 ? 0 : 4);
        }
        SometimesSums y = Runs.withThings(5);
        // The weight of 2 is that of 3 twice, and 4 is what is left.
        y.setSum(3, 3, 2);
        y.setSum(2, 4, 1);
        Due.is("weighings(5)", y.weighings(5), 3);
        Due.is("weight(5, 4)", y.weight(5, 4), 5);
        Due.is("range of 2", y.range(5, 2, true), 4);
        Due.is("range of 3", y.range(5, 3, true), 2);
        Due.is("range of 4", y.range(5, 4, false), 1);
        SometimesSums half = Runs.chain(2);
        Due.is("weight(3, 0) of a half", half.weight(3, 0), NONE);
        Due.is("range(3, 0) of a half", half.range(3, 0, true), NONE);
        Due.is("weight(6, 2) of a half", half.weight(6, 2), 3);
        int[] wrong = {LEAST, -1, 0, 7, MOST};
        for (int k : wrong) {
            Due.is("weight(" + k + ", 9)", half.weight(k, 9), BAD_VALUE);
            Due.is("range(" + k + ", 9)", half.range(k, 9, false), BAD_VALUE);
        }
        Due.is("weight(3, 3): UNKNOWN before NONE", half.weight(3, 3), UNKNOWN);
        Due.is("range(3, 3): UNKNOWN before NONE", half.range(3, 3, true), UNKNOWN);
        Due.is("weight(2, -1)", half.weight(2, -1), UNKNOWN);
    }

    private static void weighingsOfManyThings() {
        SometimesSums x = Runs.withThings(12);
        Due.is("the first of very many", x.weight(6, 11), 0);
        Due.is("their greatest", x.range(6, 11, true), 6);
        x.setSum(10, 11, 1);
        Due.is("11 is what 10 leaves", x.weight(6, 11), 6);
        x.setSum(9, 10, 8);
        x.setSum(9, 11, 8);
        Due.is("10 and 11 are halves", x.range(6, 10, true), 3);
        Due.is("and there is no half of 5", x.weighings(5), 0);
        Due.is("weight(5, 2)", x.weight(5, 2), NONE);
        Due.is("range(5, 2)", x.range(5, 2, true), NONE);
        Due.is("weight(6, 8)", x.weight(6, 8), 3);
        Due.is("range(6, 9)", x.range(6, 9, true), 3);
        Due.is("range(6, 2)", x.range(6, 2, true), 6);
        SometimesSums same = Runs.withThings(12);
        for (int thing = 3; thing < 12; thing++) {
            same.setSum(2, thing, thing);
        }
        Due.is("what changes nothing weighs nothing", same.range(6, 2, true), 0);
        Due.is("the others are free", same.range(6, 11, true), 6);
        Due.is("and very many", same.weighings(6), 1000);
        SometimesSums star = Runs.withThings(12);
        for (int thing = 3; thing < 11; thing += 2) {
            star.setSum(2, thing, thing + 1);
        }
        Due.is("range of the star's middle", star.range(6, 2, true), 6);
        Due.is("weight of the last one", star.weight(6, 10), 0);
        Due.is("weighings(1) of the star", star.weighings(1), 34);
        SometimesSums crowded = crowded();
        Due.is("nearly all sums are there", crowded.count(1), 63);
        Due.is("11 is free", crowded.weighings(1), 2);
        Runs.read(crowded, "11+11=11");
        Due.is("the last sum of all binds it", crowded.weighings(1), 1);
    }

    /** 12 things, of which all but 1 and 11 weigh nothing, with all sums but 1 + 1, 1 + 11 and 11 + 11. */
    private static SometimesSums crowded() {
        SometimesSums x = Runs.withThings(12);
        for (int one = 1; one < 11; one++) {
            for (int other = 2; other < 12; other++) {
                boolean free = one == 1 && other == 11;
                if (!free) {
                    x.setSum(one, other, other == 11 ? 11 : one == 1 ? 1 : 0);
                }
            }
        }
        return x;
    }

    private static void count() {
        SometimesSums x = Runs.chain(4);
        x.glue(3);
        Runs.type(x, "2+2");
        // The things 2, 3, 4 of the one chain go with none of 5, 6 of the other.
        int[] due = {7, 6, 1, 2, 36, 3, 6, 0, 2, 3};
        for (int what = 0; what < due.length; what++) {
            Due.is("count(" + what + ")", x.count(what), due[what]);
        }
        Due.is("count(10)", x.count(10), BAD_VALUE);
        Due.is("count(-1)", x.count(-1), BAD_VALUE);
        SometimesSums sets = Runs.sets(3);
        Due.is("smallest parts of sets", sets.count(4), 44);
        Due.is("sharp sets", sets.count(5), 255);
        Due.is("sets are one block", sets.count(3), 1);
        sets.setSum(2, 2, 2);
        Due.is("breaks", sets.count(7), breaksByHand(sets));
        SometimesSums none = Runs.withThings(12);
        Due.is("things without rest break the law 1", none.count(7), 10);
        Due.is("pairs that do not go together", none.count(6), 10 * 9 / 2 + 10);
        Due.is("smallest parts are all but 0", none.count(4), 4094);
        Due.is("only 0 and 1 are sharp", none.count(5), 3);
    }

    private static int breaksByHand(SometimesSums x) {
        int breaks = 0;
        int things = x.count(0);
        for (int a = 0; a < things; a++) {
            int rests = 0;
            for (int b = 0; b < things; b++) {
                rests += x.sum(a, b) == 1 ? 1 : 0;
                for (int c = 0; c < things; c++) {
                    int right = x.sum(b, c) < 0 ? NONE : x.sum(a, x.sum(b, c));
                    int left = x.sum(a, b) < 0 ? NONE : x.sum(x.sum(a, b), c);
                    breaks += right >= 0 && right != left ? 1 : 0;
                }
            }
            breaks += rests == 1 ? 0 : 1;
            breaks += a > 0 && x.sum(a, 1) >= 0 ? 1 : 0;
        }
        return breaks;
    }

    /** No argument may make a call throw, and a call that returns an error changes nothing. */
    private static void wrongNumbers() {
        int[] odd = {LEAST, -100, -13, -12, -3, -2, -1, 12, 13, 31, 32, 33, 144, 1 << 30, MOST};
        SometimesSums x = Runs.withThings(12);
        x.setSum(2, 3, 4);
        String before = Runs.table(x);
        for (int a : odd) {
            Due.is("take", x.take(a, 1), BAD_VALUE);
            Due.is("take", x.take(0, a), BAD_VALUE);
            Due.is("take", x.take(1, a), BAD_VALUE);
            Due.is("removeThing", x.removeThing(a), UNKNOWN);
            Due.is("glue", x.glue(a), BAD_VALUE);
            Due.is("broken", x.broken(a), BAD_VALUE);
            Due.is("count", x.count(a), BAD_VALUE);
            Due.is("weighings", x.weighings(a), BAD_VALUE);
            Due.is("block", x.block(0, a), BAD_VALUE);
            Due.is("block", x.block(a, 0), a < 0 ? BAD_VALUE : NONE);
            Due.is("thing", x.thing(2, a), BAD_VALUE);
            for (int thing = 0; thing < 3; thing++) {
                Due.is("setSum", x.setSum(a, thing, thing), UNKNOWN);
                Due.is("setSum", x.setSum(thing, a, thing), UNKNOWN);
                Due.is("setSum", x.setSum(thing, thing, a), UNKNOWN);
                Due.is("clearSum", x.clearSum(a, thing), UNKNOWN);
                Due.is("clearSum", x.clearSum(thing, a), UNKNOWN);
                Due.is("swap", x.swap(a, thing), UNKNOWN);
                Due.is("swap", x.swap(thing, a), UNKNOWN);
                Due.is("sum", x.sum(a, thing), UNKNOWN);
                Due.is("sum", x.sum(thing, a), UNKNOWN);
                Due.is("difference", x.difference(a, thing), UNKNOWN);
                Due.is("difference", x.difference(thing, a), UNKNOWN);
                Due.is("thing", x.thing(a, thing), UNKNOWN);
                Due.is("weight", x.weight(1, a), UNKNOWN);
                Due.is("range", x.range(1, a, thing == 0), UNKNOWN);
            }
        }
        Due.is("nothing has changed", Runs.table(x).equals(before) ? 1 : 0, 1);
        Due.is("nothing was recorded", x.undo(), 3);
        Due.is("but the last sum", x.sum(2, 3), NONE);
    }
}
