import java.util.ArrayList;
import java.util.List;
import java.util.Random;

/** Runs of 512 calls, drawn from fixed seeds, on LostHosts and on the Model: the answers must be alike. */
public final class ModelRuns {
    private static final int RUNS = 1500;
    private static final int CALLS = 512;
    private static final int[] STRANGE = {-1, -2, 4, 10, 11, 60, 1000, Integer.MIN_VALUE, Integer.MAX_VALUE};

    private final Random random;
    private final LostHosts real = new LostHosts();
    private final Model model = new Model();
    private final List<String> told = new ArrayList<>();
    private final int losing;
    private final int killing;
    private final int delivering;
    private int calls = 0;
    private boolean wrong = false;

    private ModelRuns(int seed) {
        random = new Random(seed);
        losing = seed % 6;
        killing = seed % 3;
        delivering = seed / 3 % 4 * 4;
    }

    private int number(int below) {
        return random.nextInt(40) == 0 ? STRANGE[random.nextInt(STRANGE.length)] : random.nextInt(below);
    }

    private int object() {
        return number(Math.min(10, 4 + calls / 8));
    }

    /** Mostly one to which a LINK leads from a, that the call may find more to do. */
    private int linkedWith(int a) {
        int set = Math.max(0, model.ofObject(a, 5));
        for (int tries = 0; tries < 50 && set != 0; tries++) {
            int b = random.nextInt(10);
            if ((set >> b & 1) != 0) {
                return b;
            }
        }
        return object();
    }

    private void same(String call, int got, int want) {
        calls++;
        told.add(call + " = " + got);
        if (got != want) {
            wrong = true;
            told.add("  wrong: the Model answers " + want);
        }
    }

    private void change() {
        int pick = random.nextInt(1000);
        if (pick < 60 || calls < 6) {
            makeObject();
        } else if (pick < 420) {
            changeLinks();
        } else if (pick < 850) {
            int x = object();
            int a = linkedWith(x);
            int b = random.nextInt(4) == 0 ? x : linkedWith(x);
            same("give(" + x + ", " + a + ", " + b + ")", real.give(x, a, b), model.give(x, a, b));
        } else if (pick < 850 + 30 * losing) {
            lose();
        }
        if (random.nextInt(40) < delivering) {
            int k = number(Math.max(1, model.many(1)));
            same("deliver(" + k + ")", real.deliver(k), model.deliver(k));
        }
    }

    private void makeObject() {
        int h = number(4);
        boolean is = random.nextBoolean();
        same("object(" + h + ", " + is + ")", real.object(h, is), model.object(h, is));
    }

    private void changeLinks() {
        int a = object();
        int b = object();
        int pick = random.nextInt(36);
        if (pick < 8) {
            boolean is = random.nextBoolean();
            same("root(" + a + ", " + is + ")", real.root(a, is), model.root(a, is));
        } else if (pick < 30) {
            same("link(" + a + ", " + b + ")", real.link(a, b), model.link(a, b));
        } else {
            b = linkedWith(a);
            same("unlink(" + a + ", " + b + ")", real.unlink(a, b), model.unlink(a, b));
        }
    }

    private void lose() {
        int a = object();
        int h = number(4);
        int pick = random.nextInt(100);
        if (pick < 50) {
            same("collect(" + h + ")", real.collect(h), model.collect(h));
        } else if (pick < 70) {
            same("trace(" + a + ")", real.trace(a), model.trace(a));
        } else if (pick < 70 + 5 * killing) {
            same("kill(" + h + ")", real.kill(h), model.kill(h));
        } else if (pick < 95) {
            same("recover()", real.recover(), model.recover());
        } else {
            same("settle()", real.settle(), model.settle());
        }
    }

    private void look() {
        int a = number(10);
        int b = number(10);
        int h = number(4);
        int what = number(8);
        int k = number(Math.max(1, model.many(1)));
        switch (random.nextInt(10)) {
            case 0 -> same("ofObject(" + a + ", " + what + ")", real.ofObject(a, what), model.ofObject(a, what));
            case 1 -> same("weight(" + a + ", " + b + ")", real.weight(a, b), model.weight(a, b));
            case 2 -> same("letter(" + k + ", " + what + ")", real.letter(k, what), model.letter(k, what));
            case 3 -> same("stays(" + h + ")", real.stays(h), model.stays(h));
            case 4 -> same("old(" + h + ", " + a + ")", real.old(h, a), model.old(h, a));
            case 5 -> same("back(" + a + ", 0)", real.back(a, 0), model.back(a, 0));
            case 6 -> same("back(" + a + ", " + what + ")", real.back(a, what), model.back(a, what));
            case 7 -> same("reached()", real.reached(), model.reached());
            case 8 -> same("far(" + a + ")", real.far(a), model.far(a));
            default -> same("many(" + what + ")", real.many(what), model.many(what));
        }
    }

    /** All that can be asked, at a run's end. */
    private void lookAtAll() {
        for (int a = 0; a < 10; a++) {
            for (int b = 0; b < 10; b++) {
                same("weight(" + a + ", " + b + ")", real.weight(a, b), model.weight(a, b));
                same("ofObject(" + a + ", " + b + ")", real.ofObject(a, b), model.ofObject(a, b));
                same("back(" + a + ", " + b + ")", real.back(a, b), model.back(a, b));
                same("old(" + a + ", " + b + ")", real.old(a, b), model.old(a, b));
            }
            same("far(" + a + ")", real.far(a), model.far(a));
            same("many(" + a + ")", real.many(a), model.many(a));
            same("stays(" + a + ")", real.stays(a), model.stays(a));
        }
        for (int k = 0; k <= model.many(1); k++) {
            for (int what = -1; what < 6; what++) {
                same("letter(" + k + ", " + what + ")", real.letter(k, what), model.letter(k, what));
            }
        }
        same("reached()", real.reached(), model.reached());
    }

    private boolean run() {
        int end = CALLS / 4 + random.nextInt(3 * CALLS / 4);
        while (calls < end && !wrong) {
            change();
            if (random.nextInt(3) == 0) {
                look();
            }
        }
        if (!wrong) {
            lookAtAll();
        }
        return !wrong;
    }

    public static void main(String[] args) {
        long answers = 0;
        for (int seed = 0; seed < RUNS; seed++) {
            ModelRuns one = new ModelRuns(seed);
            boolean alike = one.run();
            answers += one.calls;
            if (!alike) {
                System.out.println("run of seed " + seed + ":");
                one.told.forEach(System.out::println);
                System.exit(1);
            }
        }
        System.out.println("ModelRuns: " + RUNS + " runs, " + answers + " answers alike");
    }
}
