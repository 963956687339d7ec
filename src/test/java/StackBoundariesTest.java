import java.util.function.ToIntFunction;

/**
 * The sentences of promises 1 to 11 that name a boundary, one method for each, with the document's words above it:
 * the last call that is accepted, the first that is refused, which of two refusals comes first, and that a refused
 * call changes nothing.
 *
 * Some orders cannot be seen: 16 steps, or 6 of them next or until, leave at least one formula on the stack, so
 * not and next never meet FULL and the empty stack at once; and two reasons for FULL answer alike.
 */
public final class StackBoundariesTest {
    private static final int BAD_ARG = -1;
    private static final int FULL = -2;
    private static final int TOO_FEW = -3;
    private static final int[] NOT_A_FACT = {-1, 3, 4, 7, 8, 32, 34, -30, 256, Integer.MIN_VALUE, Integer.MAX_VALUE};
    private static final int[] TWO = {2, 5};

    private static final String ONE_15_STEPS = "0" + "!".repeat(14);
    private static final String ONE_16_STEPS = "0" + "!".repeat(15);
    private static final String TWO_15_STEPS = "01" + "!".repeat(13);
    private static final String TWO_16_STEPS = "01" + "!".repeat(14);
    private static final String SIX_15_STEPS = "012012" + "!".repeat(9);
    private static final String SIX_16_STEPS = "012012" + "!".repeat(10);

    public static void main(String[] args) {
        aNewObjectIsEmpty();
        aNewObjectUsesFact0();
        factOutOfRange();
        factAtSixteenSteps();
        factAtSixFormulas();
        factBadArgBeforeFull();
        notAtSixteenSteps();
        notOnTheEmptyStack();
        binaryAtSixteenSteps('&', "and");
        binaryWithFewerThanTwo('&', "and");
        binaryFullBeforeTooFew('&', "and");
        binaryAtSixteenSteps('|', "or");
        binaryWithFewerThanTwo('|', "or");
        binaryFullBeforeTooFew('|', "or");
        nextAtSixteenSteps();
        nextAfterSix();
        nextOnTheEmptyStack();
        binaryAtSixteenSteps('U', "until");
        untilAfterSix();
        binaryWithFewerThanTwo('U', "until");
        binaryFullBeforeTooFew('U', "until");
        untilFullAfterSixBeforeTooFew();
        sixOfNextAndUntilTogether();
        sixAreCountedOverTheWholeStack();
        sixAreCountedFromTheEmptying();
        onlyAcceptedOnesAmongTheSix();
        stepsFromNoneToSixteen();
        stepsCountsAcceptedCalls();
        stepsFromTheEmptying();
        depthFromNoneToSix();
        discardFromEveryEdge();
        defineOnTheEmptyStack();
        defineFromOneToSix();
        defineAtSixteenSteps();
        defineTakesTheTop();
        defineEmptiesTheStack();
        defineLeavesTheCourse();
        Checks.finish();
    }

    private static CourseMonitor busy(String letters) {
        return Checks.busy(letters, TWO);
    }

    private static void refused(String what, String letters, ToIntFunction<CourseMonitor> call, int code) {
        Twins.refused(what, () -> busy(letters), call, code);
    }

    // Promise 1: "The stack is empty, ... the course has no instant."
    private static void aNewObjectIsEmpty() {
        Checks.state("1 new", new CourseMonitor(), 0, 0, 0);
        Checks.due("1 nothing to define", new CourseMonitor().define(), TOO_FEW);
        Checks.due("1 nothing to undo", new CourseMonitor().undo(), CourseMonitor.NONE);
        Twins.alike("1 room as after discard and restart", CourseMonitor::new, () -> {
            CourseMonitor m = Checks.made(SIX_16_STEPS);
            m.step(7);
            m.discard();
            m.restart();
            return m;
        });
    }

    // Promise 1: "the formula in use is fact 0"
    private static void aNewObjectUsesFact0() {
        Twins.alike("1 fact 0", CourseMonitor::new, () -> Checks.with("0"));
    }

    // Promise 2: "f not 0 to 2 answers BAD_ARG"
    private static void factOutOfRange() {
        for (int f : NOT_A_FACT) {
            refused("2 fact(" + f + ")", "01!", m -> m.fact(f), BAD_ARG);
            Twins.refused("2 fact(" + f + "), new", CourseMonitor::new, m -> m.fact(f), BAD_ARG);
        }
        int[] sets = {0b10101010, 0b11001100, 0b11110000};
        for (int f = 0; f <= 2; f++) {
            CourseMonitor m = new CourseMonitor();
            Checks.due("2 fact(" + f + ")", m.fact(f), 1);
            m.define();
            Checks.due("2 it is fact " + f, m.wouldHoldWith(), sets[f]);
        }
    }

    // Promise 2: "steps() is 16 answers FULL"
    private static void factAtSixteenSteps() {
        Checks.due("2 sixteenth step", busy(ONE_15_STEPS).fact(2), 2);
        refused("2 seventeenth step", ONE_16_STEPS, m -> m.fact(2), FULL);
    }

    // Promise 2: "the stack holds 6 formulas answers FULL"
    private static void factAtSixFormulas() {
        Checks.due("2 sixth formula", busy("01201").fact(2), 6);
        refused("2 seventh formula", "012012", m -> m.fact(2), FULL);
        refused("2 seventh formula, 15 steps", SIX_15_STEPS, m -> m.fact(2), FULL);
        refused("2 seventh formula, 16 steps", SIX_16_STEPS, m -> m.fact(2), FULL);
        Checks.due("2 room again", busy("012012&").fact(2), 6);
    }

    // Promise 2: "Tested in this order"
    private static void factBadArgBeforeFull() {
        for (int f : NOT_A_FACT) {
            refused("2 fact(" + f + "), 16 steps", ONE_16_STEPS, m -> m.fact(f), BAD_ARG);
            refused("2 fact(" + f + "), 6 formulas", "012012", m -> m.fact(f), BAD_ARG);
            refused("2 fact(" + f + "), both", SIX_16_STEPS, m -> m.fact(f), BAD_ARG);
        }
    }

    // Promise 3: "steps() is 16 answers FULL"
    private static void notAtSixteenSteps() {
        Checks.due("3 sixteenth step", busy(ONE_15_STEPS).not(), 1);
        Checks.due("3 sixteenth step, six formulas", busy(SIX_15_STEPS).not(), 6);
        refused("3 seventeenth step", ONE_16_STEPS, CourseMonitor::not, FULL);
        refused("3 seventeenth step, six formulas", SIX_16_STEPS, CourseMonitor::not, FULL);
    }

    // Promise 3: "empty stack answers TOO_FEW"
    private static void notOnTheEmptyStack() {
        refused("3 empty", "", CourseMonitor::not, TOO_FEW);
        Checks.due("3 one", busy("0").not(), 1);
    }

    // Promises 4, 5 and 7: "steps() is 16 answers FULL"
    private static void binaryAtSixteenSteps(char letter, String name) {
        Checks.due(name + ", sixteenth step", Checks.make(busy(TWO_15_STEPS), letter), 1);
        Checks.due(name + ", sixteenth step, six formulas", Checks.make(busy(SIX_15_STEPS), letter), 5);
        refused(name + ", seventeenth step", TWO_16_STEPS, m -> Checks.make(m, letter), FULL);
        refused(name + ", seventeenth step, six formulas", SIX_16_STEPS, m -> Checks.make(m, letter), FULL);
    }

    // Promises 4, 5 and 7: "fewer than two answers TOO_FEW"
    private static void binaryWithFewerThanTwo(char letter, String name) {
        refused(name + ", none", "", m -> Checks.make(m, letter), TOO_FEW);
        refused(name + ", one", "0", m -> Checks.make(m, letter), TOO_FEW);
        refused(name + ", one, 15 steps", ONE_15_STEPS, m -> Checks.make(m, letter), TOO_FEW);
        Checks.due(name + ", two", Checks.make(busy("01"), letter), 1);
    }

    // Promises 4, 5 and 7: "Tested in this order"
    private static void binaryFullBeforeTooFew(char letter, String name) {
        refused(name + ", one, 16 steps", ONE_16_STEPS, m -> Checks.make(m, letter), FULL);
    }

    // Promise 6: "steps() is 16 answers FULL"
    private static void nextAtSixteenSteps() {
        Checks.due("6 sixteenth step", busy(ONE_15_STEPS).next(), 1);
        refused("6 seventeenth step", ONE_16_STEPS, CourseMonitor::next, FULL);
        refused("6 seventeenth step after five nexts", "0XXXXX" + "!".repeat(10), CourseMonitor::next, FULL);
    }

    // Promise 6: "6 calls of next and until were accepted since the stack was last emptied answers FULL"
    private static void nextAfterSix() {
        Checks.due("6 sixth", busy("0XXXXX").next(), 1);
        refused("6 seventh", "0XXXXXX", CourseMonitor::next, FULL);
        refused("6 seventh, after untils", "01U0U1U0U1U0U", CourseMonitor::next, FULL);
        refused("6 seventh, 15 steps", "0XXXXXX" + "!".repeat(8), CourseMonitor::next, FULL);
        refused("6 seventh, 16 steps", "0XXXXXX" + "!".repeat(9), CourseMonitor::next, FULL);
    }

    // Promise 6: "empty stack answers TOO_FEW"
    private static void nextOnTheEmptyStack() {
        refused("6 empty", "", CourseMonitor::next, TOO_FEW);
        Checks.due("6 one", busy("0").next(), 1);
    }

    // Promise 7: "6 calls of next and until were accepted since the stack was last emptied answers FULL"
    private static void untilAfterSix() {
        Checks.due("7 sixth", busy("01XXXXX").until(), 1);
        Checks.due("7 sixth, after untils", busy("01U0U1U0U1U0").until(), 1);
        refused("7 seventh", "01XXXXXX", CourseMonitor::until, FULL);
        refused("7 seventh, after untils", "01U0U1U0U1U0U1", CourseMonitor::until, FULL);
        refused("7 seventh, 16 steps", "01XXXXXX" + "!".repeat(8), CourseMonitor::until, FULL);
    }

    // Promise 7: "Tested in this order"
    private static void untilFullAfterSixBeforeTooFew() {
        refused("7 one, after six nexts", "0XXXXXX", CourseMonitor::until, FULL);
        refused("7 one, after six untils", "01U0U1U0U1U0U", CourseMonitor::until, FULL);
        refused("7 one, after five", "0XXXXX", CourseMonitor::until, TOO_FEW);
    }

    // Terms: "they may have at most 6 nexts and untils together"
    private static void sixOfNextAndUntilTogether() {
        for (int nexts = 0; nexts <= 6; nexts++) {
            String letters = "0" + "X".repeat(nexts) + "1U".repeat(6 - nexts);
            Checks.due("all of " + letters, Checks.make(busy(""), letters), 1);
            Checks.due("steps of " + letters, busy(letters).steps(), letters.length());
            refused("next after " + letters, letters, CourseMonitor::next, FULL);
            refused("until after " + letters, letters + "2", CourseMonitor::until, FULL);
            String turned = "0" + "1U".repeat(6 - nexts) + "X".repeat(nexts);
            Checks.due("all of " + turned, Checks.make(busy(""), turned), 1);
            refused("next after " + turned, turned, CourseMonitor::next, FULL);
            Checks.due("others after " + turned, Checks.make(busy(turned), "!2&"), 1);
        }
    }

    // Promises 6 and 7: "calls of next and until were accepted": also those that are not in the top formula.
    private static void sixAreCountedOverTheWholeStack() {
        refused("6 below the top", "0XXXXXX1", CourseMonitor::next, FULL);
        refused("6 in two formulas", "0XXX1XXX", CourseMonitor::next, FULL);
        refused("6 in two formulas made one", "0XXX1XXX&", CourseMonitor::next, FULL);
        refused("7 in two formulas", "0XXX1XXX", CourseMonitor::until, FULL);
    }

    // Promises 6 and 7: "since the stack was last emptied"
    private static void sixAreCountedFromTheEmptying() {
        CourseMonitor m = busy("0XXXXXX");
        m.discard();
        Checks.due("6 six after discard", Checks.make(m, "0XXXXXX"), 1);
        Checks.due("6 seventh after discard", m.next(), FULL);
        m.define();
        Checks.due("6 six after define", Checks.make(m, "0XXXXXX"), 1);
        Checks.due("6 seventh after define", m.next(), FULL);
        m.define();
        Checks.due("7 six after define", Checks.make(m, "01U0U1U0U1U0U"), 1);
        Checks.due("7 seventh after define", Checks.make(m, "1U"), FULL);
        m.discard();
        Checks.due("7 six after discard", Checks.make(m, "01U0U1U0U1U0U"), 1);
        Checks.due("7 seventh after discard", Checks.make(m, "1U"), FULL);
    }

    // Promises 6 and 7: "were accepted"
    private static void onlyAcceptedOnesAmongTheSix() {
        CourseMonitor m = busy("");
        for (int i = 0; i < 10; i++) {
            Checks.due("6 refused, empty", m.next(), TOO_FEW);
            Checks.due("7 refused, empty", m.until(), TOO_FEW);
        }
        m.fact(0);
        for (int i = 0; i < 10; i++) {
            Checks.due("7 refused, one", m.until(), TOO_FEW);
        }
        for (int i = 0; i < 6; i++) {
            Checks.due("6 next number " + (i + 1), m.next(), 1);
        }
        Checks.due("6 seventh", m.next(), FULL);
    }

    // Promise 8: "The number of accepted calls": 0 at first, and never more than 16.
    private static void stepsFromNoneToSixteen() {
        CourseMonitor m = busy("");
        String letters = "0!1&X2|0U12XU!&!" + "!0&|XU";
        Checks.due("8 none", m.steps(), 0);
        for (int i = 1; i <= letters.length(); i++) {
            Checks.make(m, letters.charAt(i - 1));
            Checks.due("8 after " + i + " calls", m.steps(), i < 16 ? i : 16);
        }
    }

    // Promise 8: "accepted calls of fact, not, and, or, next and until"
    private static void stepsCountsAcceptedCalls() {
        Checks.due("8 refused on the empty stack", busy("!&|XU").steps(), 0);
        Checks.due("8 refused with one", busy("0&|U").steps(), 1);
        Checks.due("8 refused with six", busy("0120120").steps(), 6);
        Checks.due("8 refused after six nexts", busy("0XXXXXXXU").steps(), 7);
        CourseMonitor m = busy("01");
        m.fact(3);
        m.fact(-1);
        m.step(1);
        m.step(8);
        m.undo();
        m.restart();
        Checks.due("8 other calls", m.steps(), 2);
    }

    // Promise 8: "since the stack was last emptied by define or discard (or the object was made)"
    private static void stepsFromTheEmptying() {
        Checks.due("8 made", new CourseMonitor().steps(), 0);
        CourseMonitor m = busy(ONE_16_STEPS);
        m.define();
        Checks.due("8 after define", m.steps(), 0);
        Checks.due("8 sixteen again", Checks.make(m, SIX_16_STEPS), 6);
        Checks.due("8 sixteen", m.steps(), 16);
        m.discard();
        Checks.due("8 after discard", m.steps(), 0);
        Checks.due("8 sixteen once more", Checks.make(m, SIX_16_STEPS), 6);
        Checks.due("8 sixteen once more", m.steps(), 16);
    }

    // Promise 9: "The number of formulas on the stack": 0 at first, and never more than 6.
    private static void depthFromNoneToSix() {
        CourseMonitor m = busy("");
        Checks.due("9 none", m.depth(), 0);
        for (int i = 1; i <= 8; i++) {
            m.fact(1);
            Checks.due("9 after " + i + " facts", m.depth(), i < 6 ? i : 6);
        }
        for (int i = 5; i >= -1; i--) {
            m.and();
            Checks.due("9 after and", m.depth(), i > 1 ? i : 1);
        }
        m.define();
        Checks.due("9 after define", m.depth(), 0);
        Checks.make(m, "012012");
        m.discard();
        Checks.due("9 after discard", m.depth(), 0);
    }

    // Promise 10: "Empties the stack; steps() becomes 0."
    private static void discardFromEveryEdge() {
        String[] edges = {"", "0", "012012", ONE_16_STEPS, SIX_16_STEPS, "0XXXXXX", "01U0U1U0U1U0U"};
        for (String letters : edges) {
            Twins.alike("10 discard after " + letters, () -> {
                CourseMonitor m = busy(letters);
                m.discard();
                return m;
            }, () -> busy(""));
        }
    }

    // Promise 11: "TOO_FEW if the stack is empty."
    private static void defineOnTheEmptyStack() {
        refused("11 empty", "", CourseMonitor::define, TOO_FEW);
        Twins.refused("11 new", CourseMonitor::new, CourseMonitor::define, TOO_FEW);
        Twins.refused("11 discarded", () -> {
            CourseMonitor m = busy("1!");
            m.discard();
            return m;
        }, CourseMonitor::define, TOO_FEW);
    }

    // Promise 11: "Otherwise the number of formulas that were on the stack."
    private static void defineFromOneToSix() {
        for (int formulas = 1; formulas <= 6; formulas++) {
            Checks.due("11 of " + formulas, busy("2".repeat(formulas)).define(), formulas);
        }
        Checks.due("11 of two made one", busy("01&").define(), 1);
    }

    // Promise 11: "The top formula becomes the one in use": also one that took all 16 steps, and then a small one.
    private static void defineAtSixteenSteps() {
        CourseMonitor m = busy(ONE_16_STEPS);
        m.restart();
        Checks.due("11 sixteen steps", m.define(), 1);
        Checks.due("11 fifteen nots", m.wouldHoldWith(), 0b01010101);
        Checks.make(m, "2");
        Checks.due("11 one step", m.define(), 1);
        Checks.due("11 fact 2 after it", m.wouldHoldWith(), 0b11110000);
        Checks.make(m, SIX_16_STEPS);
        Checks.due("11 sixteen steps, six formulas", m.define(), 6);
        Checks.due("11 ten nots", m.wouldHoldWith(), 0b11110000);
        Checks.make(m, "01&2|0!1!&2!&|012||&");
        Checks.due("11 the calls past the sixteenth are not in it", m.define(), 3);
        Checks.due("11 fact 1 was the top", m.wouldHoldWith(), 0b11001100);
    }

    // Promise 11: "The top formula becomes the one in use"
    private static void defineTakesTheTop() {
        Twins.alike("11 top of six", () -> Checks.with("012012!"), () -> Checks.with("2!"));
        Twins.alike("11 top of two", () -> Checks.with("0X1!1U0&1"), () -> Checks.with("1"));
        Twins.alike("11 made of three", () -> Checks.with("1012U|"), () -> Checks.with("012U|"));
        CourseMonitor m = busy("0");
        m.restart();
        m.define();
        Checks.make(m, "2!");
        Checks.due("11 what is made later is not in use", m.wouldHoldWith(), 0b10101010);
    }

    // Promise 11: "the stack is emptied, steps() becomes 0"
    private static void defineEmptiesTheStack() {
        String[] edges = {"0", "2120", ONE_16_STEPS + "0", "0XXXXXX!0", "01U0U1U0U1U0U0", "012010"};
        for (String letters : edges) {
            CourseMonitor m = Checks.made(letters);
            m.define();
            Checks.state("11 after " + letters, m, 0, 0, 0);
            Checks.due("11 again after " + letters, m.define(), TOO_FEW);
            Checks.due("11 room after " + letters, Checks.make(m, "0XXXXXX12012!!!!"), 6);
            Checks.due("11 steps after " + letters, m.steps(), 16);
        }
    }

    // Promise 11: "the course stays"
    private static void defineLeavesTheCourse() {
        for (int length = 0; length <= 10; length++) {
            int[] instants = Checks.same(6, length);
            CourseMonitor m = Checks.busy("1", instants);
            m.define();
            Checks.due("11 length", m.length(), length);
            Checks.due("11 holds for the course there was", m.holds(), length > 0);
            Twins.alike("11 course of " + length, () -> {
                CourseMonitor later = Checks.busy("1", instants);
                later.define();
                return later;
            }, () -> Checks.with("1", instants));
        }
    }
}
