/** All promises: runs of mixed calls, each of which the program and the model have to answer alike. */
public final class ModelTest {
    private static final int RUNS = 150;
    private static final int CALLS = 150;
    private static final int[] EXTREMES = {Integer.MIN_VALUE, Integer.MAX_VALUE, -1, 48, 49, 7, 8, 60, 1 << 30};

    private final int run;
    private long chance;
    private IceField field = new IceField();
    private Model model = new Model();
    private final StringBuilder history = new StringBuilder();

    private ModelTest(int run) {
        this.run = run;
        this.chance = run * 7919L + 17;
    }

    public static void main(String[] args) {
        for (int run = 0; run < RUNS; run++) {
            new ModelTest(run).go();
        }
        Due.end();
    }

    /** A number from 0 to bound - 1, the same ones in every run of the test. */
    private int pick(int bound) {
        chance = chance * 6364136223846793005L + 1442695040888963407L;
        return (int) Math.floorMod(chance >>> 33, (long) bound);
    }

    /** Mostly least to most, at times just beside it or far off. */
    private int around(int least, int most) {
        int kind = pick(40);
        if (kind == 0) {
            return EXTREMES[pick(EXTREMES.length)];
        }
        if (kind == 1) {
            return pick(2) == 0 ? least - 1 : most + 1;
        }
        return least + pick(most - least + 1);
    }

    private void same(String call, Due.Call byModel, Due.Call byField) {
        history.append(' ').append(call);
        String due = Due.told(byModel);
        String got = Due.told(byField);
        Due.is("run " + run, 0, () -> due.equals(got) ? 0 : 1);
        if (!due.equals(got)) {
            Due.report("run " + run + ":" + history, got, due);
        }
    }

    private void go() {
        for (int i = 0; i < CALLS; i++) {
            int kind = pick(100);
            if (kind < 55) {
                change(pick(12));
            } else if (kind < 60) {
                text();
            } else {
                ask(pick(12));
            }
            if (i % 10 == 0) {
                same("digest()", model::digest, field::digest);
            }
        }
    }

    private int anyCell() {
        return around(0, (int) (model.value(0) * model.value(1)) - 1);
    }

    private void change(int kind) {
        int a = anyCell();
        int small = around(1, 3);
        int other = around(1, 3);
        switch (kind) {
            case 0: {
                int w = around(2, 7);
                int h = around(2, 7);
                int t = around(0, 50);
                if (pick(4) == 0) {
                    same("make(" + w + "," + h + "," + t + ")", () -> model.make(w, h, t), () -> field.make(w, h, t));
                }
                break;
            }
            case 1: {
                int more = around(1, 20);
                same("lay(" + a + "," + more + ")", () -> model.lay(a, more), () -> field.lay(a, more));
                break;
            }
            case 2: case 3: {
                int side = around(0, 3);
                same("saw(" + a + "," + side + ")", () -> model.saw(a, side), () -> field.saw(a, side));
                break;
            }
            case 4: case 5: case 6:
                same("sawAround(" + a + "," + small + "," + other + ")", () -> model.sawAround(a, small, other),
                    () -> field.sawAround(a, small, other));
                break;
            case 7:
                same("takeOut(" + a + ")", () -> model.takeOut(a), () -> field.takeOut(a));
                break;
            case 8:
                if (pick(4) == 0) {
                    same("takeAll()", model::takeAll, field::takeAll);
                }
                break;
            case 9: {
                int melt = around(0, 9);
                same("setMelt(" + melt + ")", () -> model.setMelt(melt), () -> field.setMelt(melt));
                break;
            }
            case 10: {
                int days = pick(20) == 0 ? around(1, 50) : around(1, 2);
                same("pass(" + days + ")", () -> model.pass(days), () -> field.pass(days));
                break;
            }
            default:
                same("undo()", model::undo, field::undo);
                break;
        }
    }

    private void ask(int kind) {
        int a = anyCell();
        int small = around(1, 4);
        int other = around(1, 4);
        switch (kind) {
            case 0: {
                int what = around(0, 6);
                same("cell(" + a + "," + what + ")", () -> model.cell(a, what), () -> field.cell(a, what));
                break;
            }
            case 1: {
                int what = around(0, 4);
                same("block(" + a + "," + what + ")", () -> model.block(a, what), () -> field.block(a, what));
                break;
            }
            case 2: case 3: {
                int index = around(0, 15);
                same("move(" + a + "," + index + ")", () -> model.move(a, index), () -> field.move(a, index));
                break;
            }
            case 4: {
                int what = around(0, 13);
                same("value(" + what + ")", () -> model.value(what), () -> field.value(what));
                break;
            }
            case 5: {
                int index = around(0, 9);
                int what = around(0, 2);
                same("taken(" + index + "," + what + ")", () -> model.taken(index, what),
                    () -> field.taken(index, what));
                break;
            }
            case 6:
                same("cutsAround(" + a + "," + small + "," + other + ")", () -> model.cutsAround(a, small, other),
                    () -> field.cutsAround(a, small, other));
                break;
            case 7:
                same("takable()", model::takable, field::takable);
                break;
            case 8:
                same("leftStranded()", model::leftStranded, field::leftStranded);
                break;
            case 9:
                same("daysWhole(" + a + ")", () -> model.daysWhole(a), () -> field.daysWhole(a));
                break;
            case 10:
                same("daysToWater()", model::daysToWater, field::daysToWater);
                break;
            default:
                same("barredBy()", model::barredBy, field::barredBy);
                same("harvest()", model::harvestBits, () -> Double.doubleToRawLongBits(field.harvest()));
                break;
        }
    }

    /** Types a field with much water, at times with a fault in it, and reads it. */
    private void text() {
        if (pick(4) != 0) {
            same("clearText()", model::clearText, field::clearText);
        }
        int w = 2 + pick(6);
        int h = 2 + pick(6);
        int fault = pick(3) == 0 ? pick(w * h) : -1;
        for (int i = 0; i < w * h; i++) {
            if (i > 0 && i % w == 0) {
                type('/');
            }
            if (i == fault) {
                type(pick(2) == 0 ? '/' : around(0, 127));
            }
            type(pick(5) < 3 ? '0' : '1' + pick(9));
        }
        same("parse()", model::parse, field::parse);
    }

    private void type(int value) {
        same("append(" + value + ")", () -> model.append(value), () -> field.append(value));
    }
}
