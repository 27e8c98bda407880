import java.util.Random;

/** Long runs of calls, each answer compared with that of the plain model. */
public final class ModelTest {
    private static final int RUNS = 700;
    // An object is used for 512 calls; a turn makes two at most.
    private static final int CALLS = 510;

    private final SometimesSums x = new SometimesSums();
    private final PlainModel model = new PlainModel();
    private final Random random;
    private final int run;
    private final int reach;
    private String waiting = "";
    private int calls = 0;

    private ModelTest(int run) {
        this.run = run;
        random = new Random(run);
        // Small tables keep what the model does by going through everything within reach.
        reach = 3 + run % 10;
    }

    public static void main(String[] args) {
        for (int run = 0; run < RUNS && Due.wrong() < 20; run++) {
            new ModelTest(run).go();
        }
        Due.end();
    }

    private void go() {
        if (random.nextInt(3) > 0) {
            fill();
        }
        while (calls < CALLS && Due.wrong() < 20) {
            if (!waiting.isEmpty()) {
                char next = waiting.charAt(0);
                waiting = waiting.substring(1);
                due("type(" + (int) next + ")", x.type(next), model.type(next));
                if (waiting.isEmpty()) {
                    due("readSums()", x.readSums(), model.readSums());
                }
            } else if (random.nextInt(5) < 2) {
                act();
            } else {
                ask();
            }
        }
    }

    private void fill() {
        int things = 2 + random.nextInt(reach - 1);
        for (int i = 2; i < things; i++) {
            due("addThing()", x.addThing(), model.addThing());
        }
        int sums = random.nextInt(4 * things);
        for (int i = 0; i < sums && i < 60; i++) {
            setSum(1 + random.nextInt(things), 1 + random.nextInt(things), random.nextInt(things));
        }
    }

    private void due(String call, int got, int want) {
        calls++;
        if (want != PlainModel.TOO_DEAR) {
            Due.is("run " + run + ": " + call, got, want);
        }
    }

    /** Mostly a thing, sometimes one that is not there. */
    private int thing() {
        return random.nextInt(20) == 0 ? random.nextInt(18) - 3 : random.nextInt(model.count(0));
    }

    /** Mostly a thing that sums can be told of. */
    private int summand() {
        return random.nextInt(12) == 0 ? thing() : 1 + random.nextInt(model.count(0) - 1);
    }

    private int oneOf(int least, int most) {
        return random.nextInt(15) == 0 ? least - 2 + random.nextInt(most - least + 5) : least + random.nextInt(most - least + 1);
    }

    private void act() {
        switch (random.nextInt(20)) {
            case 0 -> take();
            case 1, 2 -> addThing();
            case 3 -> removeThing();
            case 4, 5, 6, 7 -> setSum(summand(), summand(), thing());
            case 8, 9 -> clearSum();
            case 10, 11 -> startText();
            case 12 -> glue();
            case 13 -> due("twice()", x.twice(), model.twice());
            case 14, 15 -> swap();
            case 16, 17 -> due("undo()", x.undo(), model.undo());
            case 18 -> due("keep()", x.keep(), model.keep());
            default -> due("restore()", x.restore(), model.restore());
        }
    }

    private void take() {
        int which = oneOf(0, 1);
        int size = which == 1 ? oneOf(1, 3) : oneOf(1, 11);
        due("take(" + which + ", " + size + ")", x.take(which, size), model.take(which, size));
    }

    private void addThing() {
        if (model.count(0) < reach || random.nextInt(10) == 0) {
            due("addThing()", x.addThing(), model.addThing());
        }
    }

    private void removeThing() {
        int thing = thing();
        due("removeThing(" + thing + ")", x.removeThing(thing), model.removeThing(thing));
    }

    private void setSum(int one, int other, int sum) {
        due("setSum(" + one + ", " + other + ", " + sum + ")", x.setSum(one, other, sum), model.setSum(one, other, sum));
    }

    private void clearSum() {
        int one = summand();
        int other = summand();
        due("clearSum(" + one + ", " + other + ")", x.clearSum(one, other), model.clearSum(one, other));
    }

    private void glue() {
        int size = oneOf(2, 11);
        due("glue(" + size + ")", x.glue(size), model.glue(size));
    }

    private void swap() {
        int one = thing();
        int other = thing();
        due("swap(" + one + ", " + other + ")", x.swap(one, other), model.swap(one, other));
    }

    /** A row of sums, sometimes with a fault, that the next calls type. */
    private void startText() {
        if (random.nextInt(4) > 0) {
            due("clearText()", x.clearText(), model.clearText());
        }
        StringBuilder row = new StringBuilder();
        int sums = 1 + random.nextInt(random.nextInt(8) == 0 ? 16 : 3);
        for (int i = 0; i < sums; i++) {
            row.append(i == 0 ? "" : ",").append(summand()).append('+').append(summand());
            if (random.nextInt(3) > 0) {
                row.append('=').append(thing());
            }
        }
        if (random.nextInt(3) == 0) {
            String signs = "0123456789+=,  a/:" + (char) 233 + (char) 0xFF11;
            row.setCharAt(random.nextInt(row.length()), signs.charAt(random.nextInt(signs.length())));
        }
        if (random.nextInt(5) == 0) {
            row.setLength(1 + random.nextInt(row.length()));
        }
        waiting = row.toString();
    }

    private void ask() {
        int thing = thing();
        int other = thing();
        int k = oneOf(1, 6);
        int what = oneOf(0, 7);
        boolean most = random.nextBoolean();
        switch (random.nextInt(12)) {
            case 0 -> due("sum(" + thing + ", " + other + ")", x.sum(thing, other), model.sum(thing, other));
            case 1 -> due("difference(" + thing + ", " + other + ")", x.difference(thing, other), model.difference(thing, other));
            case 2 -> due("broken(" + (what / 2) + ")", x.broken(what / 2), model.broken(what / 2));
            case 3, 4 -> due("thing(" + thing + ", " + what + ")", x.thing(thing, what), model.thing(thing, what));
            case 5 -> sumOf();
            case 6 -> block();
            case 7 -> due("weighings(" + k + ")", x.weighings(k), model.weighings(k));
            case 8 -> due("weight(" + k + ", " + thing + ")", x.weight(k, thing), model.weight(k, thing));
            case 9 -> due("range(" + k + ", " + thing + ", " + most + ")", x.range(k, thing, most), model.range(k, thing, most));
            default -> {
                int number = oneOf(0, 9);
                due("count(" + number + ")", x.count(number), model.count(number));
            }
        }
    }

    private void sumOf() {
        int things = random.nextInt(1 << model.count(0)) & random.nextInt(1 << model.count(0));
        if (random.nextInt(15) == 0) {
            things |= 1 << random.nextInt(32);
        }
        due("sumOf(" + things + ")", x.sumOf(things), model.sumOf(things));
    }

    private void block() {
        int rank = oneOf(0, Math.max(0, Math.min(20, model.count(3) - 1)));
        int what = oneOf(0, 1);
        due("block(" + rank + ", " + what + ")", x.block(rank, what), model.block(rank, what));
    }
}
