/** Long mixed runs of calls, the same ones each time, each answer compared with the model's. */
public final class ModelTest {
    private static final int RUNS = 3000;
    private static final int CALLS = 512;
    private static final int[] ODD = {-1, -2, 3, 8, 11, 12, 13, 16, 32, Integer.MIN_VALUE, Integer.MAX_VALUE};

    private long seed;
    private final CourseMonitor m = new CourseMonitor();
    private final Model model = new Model();
    private boolean parted = false;
    private int lastFacts = 0;
    private final StringBuilder told = new StringBuilder();

    private ModelTest(int run) {
        seed = run * 7919L + 1;
        told.append("run ").append(run).append(':');
    }

    public static void main(String[] args) {
        for (int run = 0; run < RUNS; run++) {
            ModelTest test = new ModelTest(run);
            // After a wrong answer the two have parted, and later answers say nothing.
            for (int call = 0; call < CALLS && !test.parted; call++) {
                test.call(run % 3);
            }
        }
        Checks.finish();
    }

    // A fixed sequence, so that a failing run can be run again.
    private int pick(int below) {
        seed = seed * 6364136223846793005L + 1442695040888963407L;
        return (int) ((seed >>> 33) % below);
    }

    private int pickArgument(int below) {
        return pick(20) == 0 ? ODD[pick(ODD.length)] : pick(below);
    }

    private void same(String call, long got, long want) {
        told.append(' ').append(call);
        parted = got != want;
        Checks.due(parted ? told.toString() : call, got, want);
    }

    private void same(String call, boolean got, boolean want) {
        same(call, got ? 1 : 0, want ? 1 : 0);
    }

    // The flavours: 0 as it comes, 1 long formulas, 2 long courses.
    private void call(int flavour) {
        int kind = pick(10);
        if (kind < (flavour == 1 ? 6 : 4)) {
            makeSome();
        } else if (kind < (flavour == 2 ? 7 : 6)) {
            moveSome(flavour);
        } else {
            askSome();
        }
    }

    private void makeSome() {
        char letter = "!&|XUU&X".charAt(pick(8));
        if (pick(5) < 2) {
            int f = pickArgument(3);
            same("fact(" + f + ")", m.fact(f), model.fact(f));
        } else {
            same("" + letter, Checks.make(m, letter), model.connect(letter));
        }
    }

    private void moveSome(int flavour) {
        int choice = pick(flavour == 0 ? 12 : 40);
        if (choice == 0) {
            m.discard();
            model.discard();
            same("discard() depth()", m.depth(), model.depth());
        } else if (choice == 1) {
            m.restart();
            model.restart();
            same("restart() length()", m.length(), model.length());
        } else if (choice < 4) {
            same("undo()", m.undo(), model.undo());
        } else if (choice < 7) {
            same("define()", m.define(), model.define());
        } else {
            // Where an instant is mostly like the one before, a long course leaves more formulas undecided.
            int facts = flavour == 2 && pick(8) != 0 ? lastFacts : pickArgument(8);
            lastFacts = facts & 7;
            same("step(" + facts + ")", m.step(facts), model.step(facts));
        }
    }

    private void askSome() {
        int argument = pickArgument(11);
        switch (pick(9)) {
            case 0: same("steps()", m.steps(), model.steps()); break;
            case 1: same("depth()", m.depth(), model.depth()); break;
            case 2: same("length()", m.length(), model.length()); break;
            case 3: same("holds()", m.holds(), model.holds()); break;
            case 4: same("heldAfter(" + argument + ")", m.heldAfter(argument), model.heldAfter(argument)); break;
            case 5: same("wouldHold(" + argument + ")", m.wouldHold(argument), model.wouldHold(argument)); break;
            case 6: same("wouldHoldWith()", m.wouldHoldWith(), model.wouldHoldWith()); break;
            case 7: same("soonest()", m.soonest(), model.soonest(true)); break;
            default: same("soonestNot()", m.soonestNot(), model.soonest(false)); break;
        }
    }
}
