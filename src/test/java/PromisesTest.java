/** Each promise of the document by its number: ordinary inputs, the edges it names, wrong inputs. */
public final class PromisesTest {
    private static final int BAD_ARG = -1;
    private static final int FULL = -2;
    private static final int TOO_FEW = -3;
    private static final int NONE = -4;
    private static final int[] WRONG_INTS = {-1, 8, 9, 16, 31, 32, 33, 256, -8, Integer.MIN_VALUE, Integer.MAX_VALUE};
    private static final String ALWAYS_TRUE = "00!|";

    public static void main(String[] args) {
        constants();
        promise1();
        promise2();
        promise3();
        promise4And5("&", "4 and");
        promise4And5("|", "5 or");
        promise6();
        promise7();
        promise8();
        promise9();
        promise10();
        promise11();
        promise12();
        promise13();
        promise14();
        promise15();
        promise16Facts();
        promise16Connectives();
        promise16Next();
        promise16Until();
        promise16Empty();
        promise17();
        promise18();
        promise19();
        promise20();
        promise21();
        promise22();
        Checks.finish();
    }

    private static void constants() {
        Checks.due("BAD_ARG", CourseMonitor.BAD_ARG, BAD_ARG);
        Checks.due("FULL", CourseMonitor.FULL, FULL);
        Checks.due("TOO_FEW", CourseMonitor.TOO_FEW, TOO_FEW);
        Checks.due("NONE", CourseMonitor.NONE, NONE);
    }

    private static void promise1() {
        CourseMonitor m = new CourseMonitor();
        Checks.state("1 new", m, 0, 0, 0);
        Checks.due("1 holds()", m.holds(), false);
        Checks.due("1 wouldHoldWith()", m.wouldHoldWith(), 0b10101010);
        Checks.due("1 soonest()", m.soonest(), 1);
        Checks.due("1 soonestNot()", m.soonestNot(), 0);
        m.step(1);
        m.step(0);
        Checks.due("1 fact 0 at place 0", m.holds(), true);
        CourseMonitor other = new CourseMonitor();
        Checks.due("1 two objects share nothing", other.length(), 0);
    }

    private static void promise2() {
        CourseMonitor m = new CourseMonitor();
        int[] wrong = {3, 4, -1, -3, 32, Integer.MIN_VALUE, Integer.MAX_VALUE};
        for (int f : wrong) {
            Checks.due("2 fact(" + f + ")", m.fact(f), BAD_ARG);
        }
        Checks.state("2 refused", m, 0, 0, 0);
        for (int i = 1; i <= 6; i++) {
            Checks.due("2 fact number " + i, m.fact(i % 3), i);
        }
        Checks.due("2 seventh fact", m.fact(0), FULL);
        Checks.due("2 BAD_ARG before FULL, stack full", m.fact(3), BAD_ARG);
        Checks.state("2 stack full", m, 6, 6, 0);
        CourseMonitor full = Checks.made("0" + "!".repeat(15));
        Checks.due("2 after 16 steps", full.fact(0), FULL);
        Checks.due("2 BAD_ARG before FULL, steps full", full.fact(-1), BAD_ARG);
        Checks.state("2 steps full", full, 1, 16, 0);
        Checks.due("2 the sixteenth step", Checks.made("0" + "!".repeat(14)).fact(1), 2);
    }

    private static void promise3() {
        CourseMonitor m = new CourseMonitor();
        Checks.due("3 not, empty", m.not(), TOO_FEW);
        Checks.state("3 refused", m, 0, 0, 0);
        m.fact(0);
        Checks.due("3 not", m.not(), 1);
        m.fact(1);
        Checks.due("3 not, two on the stack", m.not(), 2);
        Checks.state("3 accepted", m, 2, 4, 0);
        CourseMonitor full = Checks.made("0" + "!".repeat(14));
        Checks.due("3 sixteenth step", full.not(), 1);
        Checks.due("3 seventeenth step", full.not(), FULL);
        Checks.state("3 full", full, 1, 16, 0);
        full.define();
        Checks.due("3 fifteen nots", full.wouldHold(0), true);
        Checks.due("3 only the top", Checks.with("01!|", 0).holds(), true);
        Checks.due("3 not the one below", Checks.with("01!&", 0).holds(), false);
    }

    private static void promise4And5(String letter, String name) {
        CourseMonitor m = new CourseMonitor();
        Checks.due(name + ", empty", Checks.make(m, letter), TOO_FEW);
        m.fact(0);
        Checks.due(name + ", one", Checks.make(m, letter), TOO_FEW);
        Checks.state(name + " refused", m, 1, 1, 0);
        m.fact(1);
        m.fact(2);
        Checks.due(name + ", three", Checks.make(m, letter), 2);
        Checks.due(name + ", two", Checks.make(m, letter), 1);
        Checks.state(name + " accepted", m, 1, 5, 0);
        CourseMonitor full = Checks.made("01" + "!".repeat(14));
        Checks.due(name + ", full", Checks.make(full, letter), FULL);
        Checks.state(name + " full", full, 2, 16, 0);
        Checks.due(name + ", FULL before TOO_FEW", Checks.make(Checks.made("0" + "!".repeat(15)), letter), FULL);
        CourseMonitor last = Checks.made("01" + "!".repeat(13));
        Checks.due(name + ", sixteenth step", Checks.make(last, letter), 1);
    }

    private static void promise6() {
        CourseMonitor m = new CourseMonitor();
        Checks.due("6 next, empty", m.next(), TOO_FEW);
        Checks.state("6 refused", m, 0, 0, 0);
        m.fact(0);
        m.fact(0);
        for (int i = 0; i < 6; i++) {
            Checks.due("6 next", m.next(), 2);
        }
        Checks.due("6 seventh next", m.next(), FULL);
        Checks.due("6 until after six nexts", m.until(), FULL);
        Checks.state("6 six nexts", m, 2, 8, 0);
        Checks.due("6 others go on", m.and(), 1);
        m.discard();
        Checks.due("6 empty after discard", m.next(), TOO_FEW);
        m.fact(0);
        Checks.due("6 counted anew after discard", m.next(), 1);
        Checks.due("6 six more after discard", Checks.make(m, "XXXXX"), 1);
        m.define();
        m.fact(0);
        Checks.due("6 six more after define", Checks.make(m, "XXXXXX"), 1);
        Checks.due("6 and no seventh", m.next(), FULL);
        CourseMonitor full = Checks.made("0" + "!".repeat(15));
        Checks.due("6 full", full.next(), FULL);
        Checks.state("6 full", full, 1, 16, 0);
        CourseMonitor last = Checks.made("0" + "!".repeat(14));
        Checks.due("6 sixteenth step", last.next(), 1);
    }

    private static void promise7() {
        CourseMonitor m = new CourseMonitor();
        Checks.due("7 until, empty", m.until(), TOO_FEW);
        m.fact(0);
        for (int i = 0; i < 7; i++) {
            Checks.due("7 until, one", m.until(), TOO_FEW);
        }
        Checks.state("7 refused", m, 1, 1, 0);
        for (int i = 0; i < 6; i++) {
            m.fact(1);
            Checks.due("7 until, refused ones don't count", m.until(), 1);
        }
        Checks.due("7 FULL before TOO_FEW", m.until(), FULL);
        m.fact(2);
        Checks.due("7 seventh until", m.until(), FULL);
        Checks.due("7 next after six untils", m.next(), FULL);
        Checks.state("7 six untils", m, 2, 14, 0);
        CourseMonitor mixed = Checks.made("0X1U2U0XX");
        Checks.due("7 sixth of both", mixed.until(), 1);
        mixed.fact(0);
        Checks.due("7 seventh of both", mixed.until(), FULL);
        CourseMonitor full = Checks.made("01" + "!".repeat(14));
        Checks.due("7 full", full.until(), FULL);
        Checks.state("7 full", full, 2, 16, 0);
        Checks.due("7 full, one", Checks.made("0" + "!".repeat(15)).until(), FULL);
        CourseMonitor last = Checks.made("01" + "!".repeat(13));
        Checks.due("7 sixteenth step", last.until(), 1);
        Checks.make(m, "&");
        m.define();
        Checks.make(m, "01");
        Checks.due("7 counted anew after define", m.until(), 1);
    }

    private static void promise8() {
        CourseMonitor m = new CourseMonitor();
        String letters = "01&2!|0X12UU&";
        for (int i = 0; i < letters.length(); i++) {
            Checks.make(m, letters.charAt(i));
            Checks.due("8 steps after " + letters.charAt(i), m.steps(), i + 1);
        }
        m.step(1);
        m.undo();
        m.restart();
        m.holds();
        m.soonest();
        m.fact(9);
        m.and();
        Checks.due("8 other and refused calls don't count", m.steps(), 13);
        m.define();
        Checks.due("8 after define", m.steps(), 0);
        m.fact(0);
        m.discard();
        Checks.due("8 after discard", m.steps(), 0);
    }

    private static void promise9() {
        CourseMonitor m = new CourseMonitor();
        int[] depths = {1, 2, 3, 3, 2, 2, 3, 2, 1};
        String letters = "012!&X0U|";
        for (int i = 0; i < depths.length; i++) {
            Checks.make(m, letters.charAt(i));
            Checks.due("9 depth after " + letters.charAt(i), m.depth(), depths[i]);
        }
    }

    private static void promise10() {
        CourseMonitor m = new CourseMonitor();
        m.discard();
        Checks.state("10 nothing to discard", m, 0, 0, 0);
        m.step(2);
        Checks.make(m, "012!");
        m.discard();
        Checks.state("10 discard", m, 0, 0, 1);
        Checks.due("10 the stack is empty", m.define(), TOO_FEW);
        Checks.due("10 the formula in use stays", m.holds(), false);
        Checks.due("10 room again", Checks.make(m, "000000"), 6);
    }

    private static void promise11() {
        CourseMonitor m = new CourseMonitor();
        m.step(2);
        Checks.due("11 define, empty", m.define(), TOO_FEW);
        Checks.due("11 refused: fact 0 stays", m.holds(), false);
        Checks.make(m, "201");
        Checks.due("11 define, three", m.define(), 3);
        Checks.state("11 defined; the course stays", m, 0, 0, 1);
        Checks.due("11 the top is in use", m.holds(), true);
        Checks.due("11 define again", m.define(), TOO_FEW);
        Checks.due("11 refused: fact 1 stays", m.holds(), true);
        Checks.make(m, "2!!0&2!");
        Checks.due("11 the one being made is not in use", m.wouldHoldWith(), 255);
        Checks.due("11 define, two", m.define(), 2);
        Checks.due("11 not fact 2", m.holds(), true);
        m.restart();
        Checks.due("11 not fact 2, set", m.wouldHoldWith(), 0b00001111);
        Checks.make(m, "1");
        Checks.due("11 define, one", m.define(), 1);
        Checks.due("11 fact 1, set", m.wouldHoldWith(), 0b11001100);
        Checks.make(m, "012012");
        Checks.due("11 define, six", m.define(), 6);
        Checks.due("11 fact 2, set", m.wouldHoldWith(), 0b11110000);
    }

    private static void promise12() {
        CourseMonitor m = new CourseMonitor();
        for (int facts : WRONG_INTS) {
            Checks.due("12 step(" + facts + ")", m.step(facts), BAD_ARG);
        }
        Checks.state("12 refused", m, 0, 0, 0);
        for (int i = 1; i <= 10; i++) {
            Checks.due("12 step number " + i, m.step(i % 8), i);
        }
        Checks.due("12 eleventh", m.step(0), FULL);
        for (int facts : WRONG_INTS) {
            Checks.due("12 BAD_ARG before FULL", m.step(facts), BAD_ARG);
        }
        Checks.state("12 full", m, 0, 0, 10);
        Checks.due("12 the last is as it was", m.undo(), 2);
        Checks.due("12 room again", m.step(7), 10);
    }

    private static void promise13() {
        CourseMonitor m = new CourseMonitor();
        Checks.due("13 undo, none", m.undo(), NONE);
        Checks.state("13 refused", m, 0, 0, 0);
        for (int facts = 0; facts < 8; facts++) {
            m.step(facts);
        }
        m.wouldHoldWith();
        m.soonest();
        m.soonestNot();
        for (int facts = 7; facts >= 0; facts--) {
            Checks.due("13 undo", m.undo(), facts);
            m.wouldHold(7 - facts);
            Checks.due("13 length", m.length(), facts);
        }
        Checks.due("13 undo, none left", m.undo(), NONE);
        CourseMonitor until = Checks.with("01U", 1, 2);
        until.undo();
        Checks.due("13 the instant is gone", until.holds(), false);
    }

    private static void promise14() {
        CourseMonitor m = Checks.with("1!", 2, 2, 2);
        Checks.make(m, "01");
        m.restart();
        Checks.state("14 restart touches the course alone", m, 2, 2, 0);
        Checks.due("14 undo", m.undo(), NONE);
        Checks.due("14 not fact 1 stays in use", m.holds(), true);
        Checks.due("14 step", m.step(2), 1);
        Checks.due("14 holds", m.holds(), false);
        m.restart();
        m.restart();
        Checks.due("14 twice", m.length(), 0);
    }

    private static void promise15() {
        CourseMonitor m = new CourseMonitor();
        for (int i = 0; i <= 12; i++) {
            Checks.due("15 length", m.length(), i < 10 ? i : 10);
            m.wouldHold(1);
            m.soonestNot();
            m.step(0);
        }
        m.undo();
        Checks.due("15 after undo", m.length(), 9);
    }

    private static void promise16Facts() {
        for (int f = 0; f < 3; f++) {
            for (int facts = 0; facts < 8; facts++) {
                CourseMonitor m = Checks.with("" + f, facts, 7 - facts);
                Checks.due("16 fact " + f + " at " + facts, m.holds(), (facts >> f & 1) == 1);
            }
        }
    }

    private static void promise16Connectives() {
        for (int facts = 0; facts < 4; facts++) {
            boolean x = (facts & 1) != 0;
            boolean y = (facts & 2) != 0;
            Checks.due("16 not", Checks.with("0!", facts).holds(), !x);
            Checks.due("16 not not", Checks.with("0!!", facts, 0).holds(), x);
            Checks.due("16 and", Checks.with("01&", facts).holds(), x && y);
            Checks.due("16 or", Checks.with("01|", facts).holds(), x || y);
            Checks.due("16 and not", Checks.with("01!&", facts).holds(), x && !y);
            Checks.due("16 not or", Checks.with("0!1|", facts).holds(), !x || y);
        }
        Checks.due("16 same formula twice", Checks.with("0!0!&", 0).holds(), true);
    }

    private static void promise16Next() {
        Checks.due("16 next, no further instant", Checks.with("0X", 1).holds(), false);
        Checks.due("16 next", Checks.with("0X", 0, 1).holds(), true);
        Checks.due("16 next, not that fact", Checks.with("0X", 1, 6).holds(), false);
        Checks.due("16 next not, at the last instant", Checks.with("0!X", 0).holds(), false);
        Checks.due("16 not next, at the last instant", Checks.with("0X!", 1).holds(), true);
        Checks.due("16 next next not, one too few", Checks.with("0!XX", 0, 0).holds(), false);
        Checks.due("16 six nexts", Checks.with("2XXXXXX", 0, 0, 0, 0, 0, 0, 4).holds(), true);
        Checks.due("16 six nexts, one too few", Checks.with("2XXXXXX", 4, 4, 4, 4, 4, 4).holds(), false);
        Checks.due("16 next until", Checks.with("01UX", 0, 1, 2).holds(), true);
    }

    private static void promise16Until() {
        Checks.due("16 until, Y at once, X never", Checks.with("01U", 2).holds(), true);
        Checks.due("16 until, X throughout, Y never", Checks.with("01U", 1, 1, 1).holds(), false);
        Checks.due("16 until, Y at the last", Checks.with("01U", 1, 1, 2).holds(), true);
        Checks.due("16 until, X breaks off before Y", Checks.with("01U", 1, 0, 2).holds(), false);
        Checks.due("16 until, X fails at 0", Checks.with("01U", 0, 2).holds(), false);
        Checks.due("16 until, X need not hold at k", Checks.with("01U", 1, 2, 0).holds(), true);
        Checks.due("16 until, X is below Y on the stack", Checks.with("10U", 1, 1, 2).holds(), true);
        Checks.due("16 until, swapped", Checks.with("10U", 0, 2, 1).holds(), false);
        Checks.due("16 until of until", Checks.with("01U2U", 1, 1, 2, 4).holds(), true);
        Checks.due("16 until of until, broken", Checks.with("01U2U", 1, 1, 4, 2).holds(), false);
        String inTheEnd = ALWAYS_TRUE + "2U";
        Checks.due("16 in the end", Checks.with(inTheEnd, 0, 0, 0, 0, 0, 0, 0, 0, 0, 4).holds(), true);
        Checks.due("16 in the end, never", Checks.with(inTheEnd, 3, 3, 3, 3, 3, 3, 3, 3, 3, 3).holds(), false);
        String always = ALWAYS_TRUE + "2!U!";
        Checks.due("16 always", Checks.with(always, 4, 4, 4, 4, 4, 4, 4, 4, 4, 4).holds(), true);
        Checks.due("16 always, but for the last", Checks.with(always, 4, 4, 4, 4, 4, 4, 4, 4, 4, 0).holds(), false);
        Checks.due("16 always, but for the first", Checks.with(always, 0, 4, 4, 4).holds(), false);
    }

    private static void promise16Empty() {
        String[] hold = {"0!", "0X!", "01U!", "0!1!&", "01!|", "0!1|", "0!X!", "00!U!", "0!!!"};
        String[] fail = {"0", "1", "2", "0X", "01U", "0!X", "00!U", "0!0!U", "01&", "01!&", "0!1&", "01|", "0!!", "0!XX"};
        for (String formula : hold) {
            Checks.due("16 without instants: " + formula, Checks.with(formula).holds(), true);
        }
        for (String formula : fail) {
            Checks.due("16 without instants: " + formula, Checks.with(formula).holds(), false);
        }
    }

    private static void promise17() {
        CourseMonitor m = Checks.with("01U0!|", 1, 1, 2, 0);
        boolean[] held = {true, false, false, true, true};
        for (int k = 0; k < held.length; k++) {
            Checks.due("17 heldAfter(" + k + ")", m.heldAfter(k), held[k]);
        }
        CourseMonitor t = Checks.with(ALWAYS_TRUE, 1, 2, 3);
        int[] wrong = {-1, 4, 5, 10, 11, 12, 13, 32, Integer.MIN_VALUE, Integer.MAX_VALUE};
        for (int k : wrong) {
            Checks.due("17 heldAfter(" + k + ")", t.heldAfter(k), false);
        }
        Checks.due("17 heldAfter(3)", t.heldAfter(3), true);
        t.undo();
        Checks.due("17 after undo", t.heldAfter(3), false);
        Checks.due("17 only k counts, not the later instants", Checks.with("0X", 0, 1).heldAfter(1), false);
        Checks.due("17 the formula in use now", Checks.with("0X!", 0, 1).heldAfter(1), true);
        CourseMonitor full = Checks.with(ALWAYS_TRUE, 0, 0, 0, 0, 0, 0, 0, 0, 0, 0);
        Checks.due("17 heldAfter(10)", full.heldAfter(10), true);
        Checks.due("17 heldAfter(11)", full.heldAfter(11), false);
    }

    private static void promise18() {
        CourseMonitor m = Checks.with("01U", 1);
        for (int facts = 0; facts < 8; facts++) {
            Checks.due("18 wouldHold(" + facts + ")", m.wouldHold(facts), (facts & 2) != 0);
        }
        CourseMonitor t = Checks.with(ALWAYS_TRUE, 1);
        for (int facts : WRONG_INTS) {
            Checks.due("18 wouldHold(" + facts + ")", t.wouldHold(facts), false);
        }
        Checks.state("18 changes nothing", m, 0, 0, 1);
        Checks.due("18 holds() is about the course as it is", m.holds(), false);
        Checks.due("18 undo", m.undo(), 1);
        Checks.due("18 from the course without instants", m.wouldHold(2), true);
        Checks.due("18 from the course without instants, not", m.wouldHold(1), false);
    }

    private static void promise19() {
        Checks.due("19 until", Checks.with("01U", 1).wouldHoldWith(), 0b11001100);
        Checks.due("19 none", Checks.with("01U", 0).wouldHoldWith(), 0);
        Checks.due("19 all", Checks.with("01U", 2).wouldHoldWith(), 255);
        Checks.due("19 next", Checks.with("2X", 0).wouldHoldWith(), 0b11110000);
        Checks.due("19 one alone", Checks.with("01&2&X", 0).wouldHoldWith(), 0b10000000);
        Checks.due("19 instant 0 alone", Checks.with("01|2|!").wouldHoldWith(), 1);
        CourseMonitor m = Checks.with("01U", 1);
        m.wouldHoldWith();
        Checks.state("19 changes nothing", m, 0, 0, 1);
    }

    private static void promise20() {
        Checks.due("20 now", Checks.with("0", 1).soonest(), 0);
        Checks.due("20 now, without instants", Checks.with("0!").soonest(), 0);
        Checks.due("20 one more", Checks.with("01U", 1).soonest(), 1);
        Checks.due("20 one more, without instants", Checks.with("01U").soonest(), 1);
        Checks.due("20 one more, instant 0 alone", Checks.with("01|2|!X", 7).soonest(), 1);
        Checks.due("20 one more, instant 7 alone", Checks.with("01&2&X", 0).soonest(), 1);
        Checks.due("20 two more", Checks.with("0XX", 0).soonest(), 2);
        Checks.due("20 two more, without instants", Checks.with("0X").soonest(), 2);
        Checks.due("20 two more, each of its own kind", Checks.with("01&2&X01|2|!XX&", 0).soonest(), 2);
        Checks.due("20 two more, the other way", Checks.with("01&2&XX01|2|!X&", 0).soonest(), 2);
        Checks.due("20 three more is too many", Checks.with("0XXX", 0).soonest(), NONE);
        Checks.due("20 three more is too many, without instants", Checks.with("0XX").soonest(), NONE);
        Checks.due("20 never", Checks.with("00!&").soonest(), NONE);
        CourseMonitor m = Checks.with("0XX", 5);
        m.soonest();
        Checks.state("20 changes nothing", m, 0, 0, 1);
        Checks.due("20 the course stays", m.undo(), 5);
    }

    private static void promise21() {
        Checks.due("21 now", Checks.with("0", 0).soonestNot(), 0);
        Checks.due("21 now, without instants", Checks.with("0").soonestNot(), 0);
        Checks.due("21 one more", Checks.with("01U!", 1).soonestNot(), 1);
        Checks.due("21 one more, instant 0 alone", Checks.with("01|2|!X!", 7).soonestNot(), 1);
        Checks.due("21 one more, instant 7 alone", Checks.with("01&2&X!", 0).soonestNot(), 1);
        Checks.due("21 two more", Checks.with("0XX!", 0).soonestNot(), 2);
        Checks.due("21 two more, each of its own kind", Checks.with("01&2&X01|2|!XX&!", 0).soonestNot(), 2);
        Checks.due("21 two more, the other way", Checks.with("01&2&XX01|2|!X&!", 0).soonestNot(), 2);
        Checks.due("21 three more is too many", Checks.with("0XXX!", 0).soonestNot(), NONE);
        Checks.due("21 never", Checks.with(ALWAYS_TRUE).soonestNot(), NONE);
        CourseMonitor m = Checks.with("0XX!", 5);
        m.soonestNot();
        Checks.state("21 changes nothing", m, 0, 0, 1);
        Checks.due("21 the course stays", m.undo(), 5);
    }

    private static void promise22() {
        int[] ten = {1, 1, 1, 1, 1, 1, 1, 1, 1, 1};
        CourseMonitor m = Checks.with("01U", ten);
        Checks.due("22 wouldHold, ten instants", m.wouldHold(2), true);
        Checks.due("22 wouldHold, ten instants, not", m.wouldHold(1), false);
        Checks.due("22 wouldHoldWith, ten instants", m.wouldHoldWith(), 0b11001100);
        Checks.due("20 soonest, ten instants", m.soonest(), 1);
        Checks.state("22 still ten", m, 0, 0, 10);
        String twoLater = "01" + "1X&" + "U";
        Checks.due("20 two past the tenth", Checks.with(twoLater, ten).soonest(), 2);
        Checks.due("22 not yet with one past the tenth", Checks.with(twoLater, ten).wouldHoldWith(), 0);
        Checks.due("21 two past the tenth", Checks.with(twoLater + "!", ten).soonestNot(), 2);
        CourseMonitor wide = Checks.with("0!1U!", 0, 0, 0, 0, 0, 0, 0, 0, 0, 0);
        Checks.due("21 one past the tenth", wide.soonestNot(), 1);
    }
}
