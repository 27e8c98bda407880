/** What the tests do with an object again and again. */
final class Runs {
    private Runs() {
    }

    static void type(SometimesSums x, String text) {
        for (int i = 0; i < text.length(); i++) {
            x.type(text.charAt(i));
        }
    }

    /** Puts a text in place of the one that was, and reads it. */
    static int read(SometimesSums x, String text) {
        x.clearText();
        type(x, text);
        return x.readSums();
    }

    static SometimesSums withThings(int things) {
        SometimesSums x = new SometimesSums();
        while (x.count(0) < things) {
            x.addThing();
        }
        return x;
    }

    static SometimesSums chain(int size) {
        SometimesSums x = new SometimesSums();
        x.take(0, size);
        return x;
    }

    static SometimesSums sets(int size) {
        SometimesSums x = new SometimesSums();
        x.take(1, size);
        return x;
    }

    /** The whole table as a text: the same for two objects just if their tables are the same. */
    static String table(SometimesSums x) {
        StringBuilder all = new StringBuilder();
        int things = x.count(0);
        all.append(things).append(':');
        for (int one = 0; one < things; one++) {
            for (int other = 0; other < things; other++) {
                all.append(' ').append(x.sum(one, other));
            }
        }
        return all.toString();
    }
}
