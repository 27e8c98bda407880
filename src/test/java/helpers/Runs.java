/** What the tests do with an object again and again. */
final class Runs {
    private Runs() {
    }

    static void type(SometimesSums x, String text) {
        for (int i = 0; i < text.length(); i++) {
            x.type(text.charAt(i));
        }
    }

    /** Puts a text in place of the one that was, and reads it. */
    static int read(SometimesSums x, String text) {
        x.clearText();
        type(x, text);
        return x.readSums();
    }

    static SometimesSums withThings(int things) {
        SometimesSums x = new SometimesSums();
        while (x.count(0) < things) {
            x.addThing();
        }
        return x;
    }

    static SometimesSums chain(int size) {
        SometimesSums x = new SometimesSums();
        x.take(0, size);
        return x;
    }

    static SometimesSums sets(int size) {
        SometimesSums x = new SometimesSums();
        x.take(1, size);
        return x;
    }

    /** The whole table as a text: the same for two objects just if their tables are the same. */
    static String table(SometimesSums x) {
        StringBuilder all = new StringBuilder();
        int things = x.count(0);
        all.append(things).append(':');
        for (int one = 0; one < things; one++) {
            for (int other = 0; other < things; other++) {
                all.append(' ').append(x.sum(one, other));
            }
        }
        return all.toString();
    }

    /** The same as table(), in few calls: it asks only for the sums that are there. */
    static String state(SometimesSums x) {
        StringBuilder all = new StringBuilder();
        int things = x.count(0);
        all.append(things).append(':');
        for (int one = 0; one < things; one++) {
            int addends = x.thing(one, 6);
            for (int other = Math.max(1, one); other < things; other++) {
                if ((addends >> other & 1) == 1) {
                    all.append(' ').append(one).append('+').append(other).append('=').append(x.sum(one, other));
                }
            }
        }
        return all.toString();
    }

    /** All that an object holds: state, history, snapshot and text. It is used up by this. */
    static String everything(SometimesSums x) {
        StringBuilder all = new StringBuilder(state(x));
        all.append("; text of ").append(x.count(9));
        all.append("; history of ").append(x.count(8));
        for (int left = x.undo(); left >= 0; left = x.undo()) {
            all.append("; ").append(left).append(": ").append(state(x));
        }
        all.append("; snapshot ").append(x.restore()).append(": ").append(state(x));
        all.append("; text read ").append(x.readSums()).append(": ").append(state(x));
        return all.toString();
    }

    /** Looks whether a call answers as due, and leaves all that the object holds as it was. */
    static void changesNothing(String what, Start start, Call call, int due) {
        SometimesSums called = start.make();
        Due.is(what, call.of(called), due);
        Due.same(what + " has left", everything(called), everything(start.make()));
    }

    /** Looks whether a call answers as due, and records just the state that was before it. */
    static void isAct(String what, Start start, Call call, int due) {
        SometimesSums x = start.make();
        String before = state(x);
        int states = x.count(8);
        Due.is(what, call.of(x), due);
        Due.is(what + " records: count(8)", x.count(8), Math.min(4, states + 1));
        Due.is(what + ", then undo()", x.undo(), Math.min(3, states));
        Due.same(what + " is undone", state(x), before);
    }

    /** Looks whether the sums are these, and no others but those with 0: three numbers each. */
    static void hasJust(SometimesSums x, int... sums) {
        Due.is("how many sums there are", x.count(1), sums.length / 3);
        for (int i = 0; i + 2 < sums.length; i += 3) {
            Due.is(sums[i] + " + " + sums[i + 1], x.sum(sums[i], sums[i + 1]), sums[i + 2]);
            Due.is(sums[i + 1] + " + " + sums[i], x.sum(sums[i + 1], sums[i]), sums[i + 2]);
        }
    }

    /** So many things, with these sums: three numbers each. */
    static SometimesSums withSums(int things, int... sums) {
        SometimesSums x = new SometimesSums();
        for (int thing = 2; thing < things; thing++) {
            x.addThing();
        }
        for (int i = 0; i + 2 < sums.length; i += 3) {
            x.setSum(sums[i], sums[i + 1], sums[i + 2]);
        }
        return x;
    }
}
