import java.util.function.Consumer;

/**
 * The sentences of the terms and of promises 12 to 22 that name a boundary, one method for each, with the
 * document's words above it.
 */
public final class CourseBoundariesTest {
    private static final int BAD_ARG = -1;
    private static final int FULL = -2;
    private static final int NONE = -4;
    private static final int[] NOT_AN_INSTANT =
        {-1, 8, 9, 10, 16, 31, 32, 39, 64, 256, -8, -32, Integer.MIN_VALUE, Integer.MAX_VALUE};
    private static final int[] TEN = {3, 1, 4, 1, 5, 2, 6, 5, 3, 7};
    private static final String TRUE = "00!|";
    private static final String FALSE = "00!&";
    private static final String IN_THE_END_2 = TRUE + "2U";
    private static final String ALWAYS_2 = TRUE + "2!U!";
    // until (fact 0) (and (fact 1) (next (fact 1))): from a course with fact 0 alone it takes two more.
    private static final String TWO_LATER_1 = "01" + "1X&" + "U";

    public static void main(String[] args) {
        factAtTheFirstPlace();
        nextAtTheLastPlace();
        untilWithYAtOnce();
        untilWithYAtTheLastPlace();
        untilWithYNowhere();
        untilWithXUpToTheOneBefore();
        untilFromItsOwnPlace();
        theCourseWithoutInstants();
        inTheEndAndAlways();
        noCallThrows();
        the512thCall();
        stepOutOfRange();
        stepAtTenInstants();
        stepBadArgBeforeFull();
        undoWithoutInstants();
        undoAnswersTheLast();
        restartFromEveryLength();
        lengthFromNoneToTen();
        holdsFromNoneToTen();
        heldAfterOutOfRange();
        heldAfterNoneAndAll();
        heldAfterLooksAtNoLaterInstant();
        wouldHoldOutOfRange();
        wouldHoldWithEachInstant();
        wouldHoldWithNoneOneAndAll();
        soonestLeast();
        soonestWithEachPair();
        soonestNone();
        soonestBeyondTen();
        soonestNotLeast();
        soonestNotWithEachPair();
        soonestNotNone();
        soonestNotBeyondTen();
        oneMoreThanTen();
        questionsChangeNothing();
        Checks.finish();
    }

    private static CourseMonitor busyWithTen() {
        return Checks.busy("012!", TEN);
    }

    private static void holds(String what, String formula, boolean want, int... instants) {
        Checks.due(what, Checks.with(formula, instants).holds(), want);
    }

    // Terms: "A formula holds for a course with n >= 1 if it holds at place 0." and "fact f holds at instant i"
    private static void factAtTheFirstPlace() {
        for (int f = 0; f <= 2; f++) {
            for (int facts = 0; facts <= 7; facts++) {
                boolean want = (facts & (1 << f)) != 0;
                holds("fact " + f + ", one instant " + facts, "" + f, want, facts);
                holds("fact " + f + ", first of two " + facts, "" + f, want, facts, 7 - facts);
                holds("fact " + f + ", second " + facts, f + "X", want, 7 - facts, facts);
            }
        }
    }

    // Terms: "next X: i + 1 < n and X holds at i + 1"
    private static void nextAtTheLastPlace() {
        holds("next at the only place", "0X", false, 1);
        holds("next true at the only place", TRUE + "X", false, 1);
        holds("next not at the only place", "0!X", false, 1);
        holds("not next at the only place", "0X!", true, 1);
        holds("next at the last but one", "0X", true, 0, 1);
        holds("next, X at i alone", "0X", false, 1, 0);
        holds("next next at the last but one", "0XX", false, 1, 1);
        holds("next not next at the last but one", "0X!X", true, 1, 1);
        for (int length = 0; length <= 10; length++) {
            for (int nexts = 0; nexts <= 6; nexts++) {
                String formula = TRUE + "X".repeat(nexts);
                boolean want = nexts == 0 || nexts < length;
                holds(nexts + " nexts, " + length + " instants", formula, want, Checks.same(5, length));
            }
        }
    }

    // Terms: "there is a k with i <= k ... such that Y holds at k": k may be i, and X is asked nowhere then.
    private static void untilWithYAtOnce() {
        holds("until, Y at once, the only place", "01U", true, 2);
        holds("until, Y at once, X nowhere", "01U", true, 2, 0, 0);
        holds("until, Y at once, X never can", FALSE + "1U", true, 2);
        holds("until, Y at once and again after X broke", "01U", true, 2, 0, 2);
        holds("until, Y at once, at a later place", "01UX", true, 0, 2);
    }

    // Terms: "k < n": k may be the last place.
    private static void untilWithYAtTheLastPlace() {
        for (int length = 1; length <= 10; length++) {
            int[] instants = Checks.same(1, length);
            instants[length - 1] = 2;
            holds("until, Y at the last of " + length, "01U", true, instants);
            if (length > 1) {
                instants[length - 2] = 0;
                holds("until, X not before the last of " + length, "01U", false, instants);
            }
        }
    }

    // Terms: "there is a k": without one until does not hold, though X holds to the end.
    private static void untilWithYNowhere() {
        for (int length = 0; length <= 10; length++) {
            holds("until, Y nowhere in " + length, "01U", false, Checks.same(5, length));
            holds("until true, Y nowhere in " + length, TRUE + "1U", false, Checks.same(5, length));
            holds("not until, Y nowhere in " + length, "01U!", true, Checks.same(5, length));
        }
    }

    // Terms: "X holds at every place from i to k - 1"
    private static void untilWithXUpToTheOneBefore() {
        holds("until, X not at k", "01U", true, 1, 1, 2);
        holds("until, X at k too", "01U", true, 1, 1, 3);
        holds("until, X not at k - 1", "01U", false, 1, 0, 2);
        holds("until, X not at i", "01U", false, 0, 1, 2);
        holds("until, X not in the middle", "01U", false, 1, 0, 1, 2);
        holds("until, an earlier k does", "01U", true, 1, 2, 0, 2);
        holds("until, Y is the top", "10U", false, 2, 2);
    }

    // Terms: "i <= k": a Y before i is of no use.
    private static void untilFromItsOwnPlace() {
        holds("next until, Y only before", "01UX", false, 3, 1, 1);
        holds("next until, Y before and after", "01UX", true, 3, 1, 2);
        holds("until of until from each place", "01U2!U", true, 5, 6, 1);
    }

    // Terms: "For the course without instants: fact, next and until do not hold; not X holds if X does not;
    // and X Y if both do; or X Y if one does."
    private static void theCourseWithoutInstants() {
        String yes = "0!";
        String no = "1";
        for (int f = 0; f <= 2; f++) {
            holds("without instants, fact " + f, "" + f, false);
            holds("without instants, not fact " + f, f + "!", true);
        }
        for (String x : new String[] {yes, no}) {
            holds("without instants, next " + x, x + "X", false);
            holds("without instants, not " + x, x + "!", x.equals(no));
            for (String y : new String[] {yes, no}) {
                holds("without instants, until " + x + y, x + y + "U", false);
                holds("without instants, and " + x + y, x + y + "&", x.equals(yes) && y.equals(yes));
                holds("without instants, or " + x + y, x + y + "|", x.equals(yes) || y.equals(yes));
            }
        }
        holds("without instants, not next", "0!X!", true);
        holds("without instants, not until", "0!1!U!", true);
        holds("without instants, next under until under or", "0!X0!0!U|", false);
    }

    // Terms: "'In the end' X is until (or (fact 0) (not (fact 0))) X; 'always' X is not (in the end (not X))."
    private static void inTheEndAndAlways() {
        for (int length = 0; length <= 10; length++) {
            holds("in the end, never in " + length, IN_THE_END_2, false, Checks.same(3, length));
            holds("always in " + length, ALWAYS_2, true, Checks.same(4, length));
            for (int place = 0; place < length; place++) {
                int[] once = Checks.same(3, length);
                once[place] = 4;
                holds("in the end, at " + place + " of " + length, IN_THE_END_2, true, once);
                int[] butOnce = Checks.same(4, length);
                butOnce[place] = 3;
                holds("always, but at " + place + " of " + length, ALWAYS_2, false, butOnce);
            }
        }
    }

    // Terms: "No call ever throws."
    private static void noCallThrows() {
        int[] arguments = {Integer.MIN_VALUE, Integer.MIN_VALUE + 1, -65, -33, -32, -12, -2, -1, 0, 1, 2, 3, 6, 7, 8, 9,
            10, 11, 12, 13, 16, 31, 32, 33, 63, 64, 65, 255, Integer.MAX_VALUE - 1, Integer.MAX_VALUE};
        String[] makings = {"", "0", "012012", "012012!!!!!!!!!!", "0XXXXXX", "01U0U1U0U1U0U12", "0" + "!".repeat(15)};
        int[] lengths = {0, 1, 8, 9, 10};
        for (String letters : makings) {
            for (int length : lengths) {
                for (int argument : arguments) {
                    noneThrows(letters, length, argument, false);
                    noneThrows(letters, length, argument, true);
                }
            }
        }
    }

    private static void noneThrows(String letters, int length, int argument, boolean defined) {
        CourseMonitor m = Checks.busy(letters, Checks.same(6, length));
        if (defined) {
            m.define();
        }
        String thrown = "nothing";
        try {
            callEach(m, argument);
            callEach(m, argument);
        } catch (RuntimeException | Error fault) {
            thrown = fault.toString();
        }
        Checks.due("thrown after " + letters + ", " + length + " instants, by " + argument, thrown, "nothing");
    }

    private static void callEach(CourseMonitor m, int argument) {
        askEach(m, argument);
        m.fact(argument);
        m.step(argument);
        Checks.make(m, "U&|X!");
        askEach(m, argument);
        m.undo();
        m.define();
        askEach(m, argument);
        m.define();
        m.restart();
        m.undo();
        m.discard();
        askEach(m, argument);
    }

    private static void askEach(CourseMonitor m, int argument) {
        m.holds();
        m.heldAfter(argument);
        m.wouldHold(argument);
        m.wouldHoldWith();
        m.soonest();
        m.soonestNot();
        m.steps();
        m.depth();
        m.length();
    }

    // "An object is used for at most 512 calls after it has been made"
    private static void the512thCall() {
        CourseMonitor m = new CourseMonitor();
        for (int i = 0; i < 100; i++) {
            m.fact(1);
            m.define();
            m.step(2);
            m.undo();
            m.soonest();
        }
        for (int i = 0; i < 10; i++) {
            m.step(2);
        }
        Checks.due("call 511, one instant too many", m.step(0), FULL);
        Checks.due("call 512", m.wouldHoldWith(), 255);
    }

    // Promise 12: "facts not 0 to 7 answers BAD_ARG"
    private static void stepOutOfRange() {
        for (int facts : NOT_AN_INSTANT) {
            Twins.refused("12 step(" + facts + ")", () -> Checks.busy("01", 3, 4), m -> m.step(facts), BAD_ARG);
            Twins.refused("12 step(" + facts + "), new", CourseMonitor::new, m -> m.step(facts), BAD_ARG);
        }
        for (int facts = 0; facts <= 7; facts++) {
            CourseMonitor m = Checks.busy("01", 3, 4);
            Checks.due("12 step(" + facts + ")", m.step(facts), 3);
            Checks.due("12 it is " + facts, m.undo(), facts);
        }
    }

    // Promise 12: "10 instants answers FULL"
    private static void stepAtTenInstants() {
        CourseMonitor m = new CourseMonitor();
        for (int n = 1; n <= 10; n++) {
            Checks.due("12 instant number " + n, m.step(n % 8), n);
        }
        for (int facts = 0; facts <= 7; facts++) {
            int eleventh = facts;
            Twins.refused("12 an eleventh, " + facts, CourseBoundariesTest::busyWithTen, x -> x.step(eleventh), FULL);
        }
        m.undo();
        Checks.due("12 room again", m.step(5), 10);
        Checks.due("12 no more room", m.step(5), FULL);
    }

    // Promise 12: "Tested in this order"
    private static void stepBadArgBeforeFull() {
        for (int facts : NOT_AN_INSTANT) {
            Twins.refused("12 full, step(" + facts + ")", CourseBoundariesTest::busyWithTen, m -> m.step(facts), BAD_ARG);
        }
    }

    // Promise 13: "NONE if there is none"
    private static void undoWithoutInstants() {
        Twins.refused("13 new", CourseMonitor::new, CourseMonitor::undo, NONE);
        Twins.refused("13 none", () -> Checks.busy("01X"), CourseMonitor::undo, NONE);
        Twins.refused("13 after restart", () -> after(busyWithTen(), CourseMonitor::restart), CourseMonitor::undo, NONE);
        Twins.refused("13 after the last", () -> after(Checks.busy("01", 0), CourseMonitor::undo), CourseMonitor::undo, NONE);
    }

    // Promise 13: "Takes the last instant off the course and answers it": the only one, the tenth, and 0 too.
    private static void undoAnswersTheLast() {
        for (int facts = 0; facts <= 7; facts++) {
            Checks.due("13 the only one, " + facts, Checks.busy("", facts).undo(), facts);
        }
        CourseMonitor m = busyWithTen();
        for (int n = 9; n >= 0; n--) {
            Checks.due("13 number " + n, m.undo(), TEN[n]);
            Checks.due("13 instants left", m.length(), n);
        }
        Twins.alike("13 as if never there", () -> after(Checks.busy("01", 3, 4, 6), CourseMonitor::undo),
            () -> Checks.busy("01", 3, 4));
        Twins.alike("13 the only one as if never there", () -> after(Checks.busy("01", 6), CourseMonitor::undo),
            () -> Checks.busy("01"));
    }

    // Promise 14: "The course becomes one without instants."
    private static void restartFromEveryLength() {
        for (int length = 0; length <= 10; length++) {
            int[] instants = Checks.same(6, length);
            Twins.alike("14 restart from " + length, () -> after(Checks.busy("012!", instants), CourseMonitor::restart),
                () -> Checks.busy("012!"));
        }
    }

    // Promise 15 and terms: "0 <= n <= 10"
    private static void lengthFromNoneToTen() {
        CourseMonitor m = new CourseMonitor();
        Checks.due("15 none", m.length(), 0);
        for (int n = 1; n <= 12; n++) {
            m.step(n % 8);
            Checks.due("15 after " + n + " steps", m.length(), n < 10 ? n : 10);
        }
        m.step(8);
        Checks.due("15 after a refused step", m.length(), 10);
        for (int n = 9; n >= -2; n--) {
            m.undo();
            Checks.due("15 after undo", m.length(), n > 0 ? n : 0);
        }
    }

    // Promise 16: "Whether the formula in use holds for the course": without instants, with one, with ten.
    private static void holdsFromNoneToTen() {
        CourseMonitor m = Checks.with("0!");
        Checks.due("16 without instants", m.holds(), true);
        m.step(1);
        Checks.due("16 with one", m.holds(), false);
        CourseMonitor last = Checks.with(IN_THE_END_2, Checks.same(0, 9));
        Checks.due("16 with nine", last.holds(), false);
        last.step(4);
        Checks.due("16 with ten", last.holds(), true);
        last.step(0);
        Checks.due("16 a refused eleventh does not count", last.holds(), true);
        last.undo();
        Checks.due("16 with nine again", last.holds(), false);
    }

    // Promise 17: "false if k is not 0 to n"
    private static void heldAfterOutOfRange() {
        int[] never = {-1, -2, -32, 11, 12, 13, 31, 32, 33, 64, Integer.MIN_VALUE, Integer.MAX_VALUE};
        for (int n = 0; n <= 10; n++) {
            CourseMonitor m = Checks.with(TRUE, Checks.same(3, n));
            for (int k = 0; k <= 10; k++) {
                Checks.due("17 " + n + " instants, heldAfter(" + k + ")", m.heldAfter(k), k <= n);
            }
            for (int k : never) {
                Checks.due("17 " + n + " instants, heldAfter(" + k + ")", m.heldAfter(k), false);
            }
        }
        CourseMonitor m = Checks.with(TRUE, 3, 3, 3);
        m.undo();
        Checks.due("17 the instant undone", m.heldAfter(3), false);
        m.restart();
        Checks.due("17 after restart", m.heldAfter(1), false);
        Checks.due("17 after restart, none", m.heldAfter(0), true);
    }

    // Promise 17: "the course of the first k instants": k = 0 is the course without instants, k = n the whole one.
    private static void heldAfterNoneAndAll() {
        Checks.due("17 none, not fact", Checks.with("0!", 1).heldAfter(0), true);
        Checks.due("17 none, fact", Checks.with("0", 1).heldAfter(0), false);
        Checks.due("17 none, next", Checks.with("0X", 1, 1).heldAfter(0), false);
        Checks.due("17 none, until", Checks.with("01U", 2).heldAfter(0), false);
        int[] instants = Checks.same(1, 10);
        instants[9] = 2;
        CourseMonitor m = Checks.with("01U", instants);
        Checks.due("17 nine of ten", m.heldAfter(9), false);
        Checks.due("17 all ten", m.heldAfter(10), true);
    }

    // Promise 17: "the first k instants": neither those after them nor those that were only tried.
    private static void heldAfterLooksAtNoLaterInstant() {
        Checks.due("17 next", Checks.with("0X", 0, 1).heldAfter(1), false);
        Checks.due("17 always", Checks.with(ALWAYS_2, 4, 4, 0).heldAfter(2), true);
        CourseMonitor m = Checks.with("01U", 1);
        m.wouldHold(2);
        Checks.due("17 what was tried", m.heldAfter(1), false);
        Checks.due("17 what was tried is not there", m.heldAfter(2), false);
    }

    // Promise 18: "false if facts is not 0 to 7"
    private static void wouldHoldOutOfRange() {
        int[] lengths = {0, 1, 9, 10};
        for (int length : lengths) {
            CourseMonitor m = Checks.with(TRUE, Checks.same(3, length));
            for (int facts : NOT_AN_INSTANT) {
                Checks.due("18 wouldHold(" + facts + ")", m.wouldHold(facts), false);
            }
            Checks.due("18 wouldHold(0)", m.wouldHold(0), true);
            Checks.due("18 wouldHold(7)", m.wouldHold(7), true);
        }
        for (int facts : NOT_AN_INSTANT) {
            Twins.unchanged("18 wouldHold(" + facts + ")", CourseBoundariesTest::busyWithTen, m -> m.wouldHold(facts));
        }
    }

    // Promises 18 and 19: "the course followed by a further instant", from no instant to ten.
    private static void wouldHoldWithEachInstant() {
        for (int length = 0; length <= 10; length++) {
            CourseMonitor m = Checks.with("01U", Checks.same(1, length));
            for (int facts = 0; facts <= 7; facts++) {
                Checks.due("18 " + length + " and " + facts, m.wouldHold(facts), (facts & 2) != 0);
            }
            Checks.due("19 " + length, m.wouldHoldWith(), 0b11001100);
        }
    }

    // Promise 19: "the sum of 2 to the power f over the numbers f from 0 to 7"
    private static void wouldHoldWithNoneOneAndAll() {
        int[] lengths = {0, 10};
        for (int length : lengths) {
            int[] instants = Checks.same(0, length);
            Checks.due("19 none", Checks.with(FALSE, instants).wouldHoldWith(), 0);
            Checks.due("19 all", Checks.with(TRUE, instants).wouldHoldWith(), 255);
        }
        for (int facts = 0; facts <= 7; facts++) {
            CourseMonitor m = Checks.with(only(facts));
            Checks.due("19 only " + facts, m.wouldHoldWith(), 1 << facts);
            Checks.due("18 only " + facts, m.wouldHold(facts), true);
            Checks.due("18 not " + (facts ^ 1), m.wouldHold(facts ^ 1), false);
        }
    }

    /** The formula that holds at an instant with these facts and no others. */
    private static String only(int facts) {
        String formula = "";
        for (int f = 0; f <= 2; f++) {
            formula += f + ((facts & (1 << f)) != 0 ? "" : "!") + (f > 0 ? "&" : "");
        }
        return formula;
    }

    /** The formula that the next instant has the facts first of 0 and 1, and the one after it the facts second. */
    private static String onlyPair(int first, int second) {
        return onlyOf01(first) + "X" + onlyOf01(second) + "XX&";
    }

    private static String onlyOf01(int facts) {
        return "0" + ((facts & 1) != 0 ? "" : "!") + "1" + ((facts & 2) != 0 ? "" : "!") + "&";
    }

    private static void soonest(String what, int want, String formula, int... instants) {
        Checks.due("20 " + what, Checks.with(formula, instants).soonest(), want);
    }

    private static void soonestNot(String what, int want, String formula, int... instants) {
        Checks.due("21 " + what, Checks.with(formula + "!", instants).soonestNot(), want);
    }

    // Promise 20: "The least number k, 0 to 2"
    private static void soonestLeast() {
        soonest("now, without instants", 0, "0!");
        soonest("now, and with more too", 0, TRUE, 1);
        soonest("now, but not with more", 0, "0X!1X!&", 0);
        soonest("one more, and with two too", 1, IN_THE_END_2, 0);
        soonest("one more, but not with two", 1, TRUE + "X" + TRUE + "XX!&", 0);
        soonest("two more", 2, "0XX", 0);
        soonest("two more, without instants", 2, "0X");
        for (int facts = 0; facts <= 7; facts++) {
            soonest("one more, only " + facts, 1, only(facts) + "X", 7 - facts);
            soonest("two more, only " + facts, 2, only(facts) + "XX", 7 - facts);
        }
    }

    // Promise 20: "there are k instants": any two of them, from the smallest to the greatest.
    private static void soonestWithEachPair() {
        for (int first = 0; first <= 3; first++) {
            for (int second = 0; second <= 3; second++) {
                soonest("two more, " + first + " and " + second, 2, onlyPair(first, second), 5);
            }
        }
        soonest("two more, 0 and 7", 2, "01|2|!X" + "01&2&XX&", 5);
        soonest("two more, 7 and 0", 2, "01&2&X" + "01|2|!XX&", 5);
    }

    // Promise 20: "NONE if there is none"
    private static void soonestNone() {
        soonest("never", NONE, FALSE);
        soonest("never, ten instants", NONE, FALSE, TEN);
        soonest("not any more", NONE, "01U", 0);
        soonest("three more would be needed", NONE, "0XXX", 0);
        soonest("three more would be needed, without instants", NONE, "0XX");
        soonest("two more are just enough, without instants", 2, "0X");
    }

    // Promise 20: "here the course may grow beyond 10"
    private static void soonestBeyondTen() {
        for (int length = 7; length <= 10; length++) {
            int[] instants = Checks.same(1, length);
            soonest("now, from " + length, 0, TRUE, instants);
            soonest("one more, from " + length, 1, "01U", instants);
            soonest("two more, from " + length, 2, TWO_LATER_1, instants);
            soonest("never, from " + length, NONE, "0!1U", instants);
            soonest("three more, from " + length, NONE, "01" + "1X&1XX&" + "U", instants);
        }
    }

    // Promise 21: "The least number k, 0 to 2"
    private static void soonestNotLeast() {
        soonestNot("now, without instants", 0, "0!");
        soonestNot("now, and with more too", 0, TRUE, 1);
        soonestNot("now, but not with more", 0, "0X!1X!&", 0);
        soonestNot("one more, and with two too", 1, IN_THE_END_2, 0);
        soonestNot("one more, but not with two", 1, TRUE + "X" + TRUE + "XX!&", 0);
        soonestNot("two more", 2, "0XX", 0);
        soonestNot("two more, without instants", 2, "0X");
        for (int facts = 0; facts <= 7; facts++) {
            soonestNot("one more, only " + facts, 1, only(facts) + "X", 7 - facts);
            soonestNot("two more, only " + facts, 2, only(facts) + "XX", 7 - facts);
        }
    }

    // Promise 21: "there are k instants": any two of them, from the smallest to the greatest.
    private static void soonestNotWithEachPair() {
        for (int first = 0; first <= 3; first++) {
            for (int second = 0; second <= 3; second++) {
                soonestNot("two more, " + first + " and " + second, 2, onlyPair(first, second), 5);
            }
        }
        soonestNot("two more, 0 and 7", 2, "01|2|!X" + "01&2&XX&", 5);
        soonestNot("two more, 7 and 0", 2, "01&2&X" + "01|2|!XX&", 5);
    }

    // Promise 21: "NONE if there is none"
    private static void soonestNotNone() {
        soonestNot("never", NONE, FALSE);
        soonestNot("never, ten instants", NONE, FALSE, TEN);
        soonestNot("not any more", NONE, "01U", 0);
        soonestNot("three more would be needed", NONE, "0XXX", 0);
        soonestNot("three more would be needed, without instants", NONE, "0XX");
    }

    // Promise 21: "the course, followed by them": the document says of soonest alone that the course may grow beyond
    // 10 there; soonestNot is taken to be about the same courses.
    private static void soonestNotBeyondTen() {
        for (int length = 7; length <= 10; length++) {
            int[] instants = Checks.same(1, length);
            soonestNot("now, from " + length, 0, TRUE, instants);
            soonestNot("one more, from " + length, 1, "01U", instants);
            soonestNot("two more, from " + length, 2, TWO_LATER_1, instants);
            soonestNot("never, from " + length, NONE, "0!1U", instants);
            soonestNot("three more, from " + length, NONE, "01" + "1X&1XX&" + "U", instants);
        }
    }

    // Promise 22: "also with 10 instants they are about the course followed by one more"
    private static void oneMoreThanTen() {
        CourseMonitor m = Checks.with(ALWAYS_2, Checks.same(4, 10));
        Checks.due("22 holds now", m.holds(), true);
        for (int facts = 0; facts <= 7; facts++) {
            Checks.due("22 and " + facts, m.wouldHold(facts), facts >= 4);
        }
        Checks.due("22 with", m.wouldHoldWith(), 0b11110000);
        CourseMonitor one = Checks.with(TWO_LATER_1, Checks.same(1, 10));
        Checks.due("22 one more, not two", one.wouldHoldWith(), 0);
        Checks.due("22 one more, not two, by 2", one.wouldHold(2), false);
        Checks.due("22 still ten", m.length(), 10);
    }

    // A question about further instants leaves the course as it is, most of all where there is no room for them.
    private static void questionsChangeNothing() {
        for (int length = 0; length <= 10; length++) {
            int[] instants = Checks.same(1, length);
            Twins.unchanged("questions at " + length, () -> Checks.busy("012!", instants), m -> askEach(m, 2));
        }
        Twins.unchanged("questions at ten", CourseBoundariesTest::busyWithTen, m -> askEach(m, 10));
    }

    private static CourseMonitor after(CourseMonitor m, Consumer<CourseMonitor> call) {
        call.accept(m);
        return m;
    }
}
