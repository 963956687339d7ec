import java.util.Arrays;

/** What the tests share: counting answers that are not due, and short spellings for formulas and courses. */
final class Checks {
    private static int asked = 0;
    private static int wrong = 0;

    private Checks() {
    }

    static void due(String what, long got, long want) {
        asked++;
        if (got != want) {
            wrong++;
            System.out.println(what + " answered " + got + ", due is " + want);
        }
    }

    static void due(String what, boolean got, boolean want) {
        due(what, got ? 1 : 0, want ? 1 : 0);
    }

    static void due(String what, String got, String want) {
        asked++;
        if (!got.equals(want)) {
            wrong++;
            System.out.println(what + " answered " + got + ", due is " + want);
        }
    }

    static void finish() {
        System.out.println(asked + " answers, " + wrong + " not as due");
        if (wrong != 0 || asked == 0) {
            System.exit(1);
        }
    }

    /** One call for each letter: 0 1 2 fact, ! not, & and, | or, X next, U until. Answers what the last one did. */
    static int make(CourseMonitor m, String letters) {
        int answer = 0;
        for (char letter : letters.toCharArray()) {
            answer = make(m, letter);
        }
        return answer;
    }

    static int make(CourseMonitor m, char letter) {
        switch (letter) {
            case '!': return m.not();
            case '&': return m.and();
            case '|': return m.or();
            case 'X': return m.next();
            case 'U': return m.until();
            default: return m.fact(letter - '0');
        }
    }

    static CourseMonitor with(String formula, int... instants) {
        CourseMonitor m = new CourseMonitor();
        make(m, formula);
        // A test that misspells its formula would ask about another one.
        due("steps of " + formula, m.steps(), formula.length());
        m.define();
        for (int facts : instants) {
            m.step(facts);
        }
        return m;
    }

    static CourseMonitor made(String letters) {
        CourseMonitor m = new CourseMonitor();
        make(m, letters);
        return m;
    }

    /** One with a formula in use, a course and formulas on the stack, so that a stray change to any of them shows. */
    static CourseMonitor busy(String letters, int... instants) {
        CourseMonitor m = with("12!U0X|", instants);
        make(m, letters);
        return m;
    }

    static int[] same(int facts, int length) {
        int[] instants = new int[length];
        Arrays.fill(instants, facts);
        return instants;
    }

    /** A refused call must leave all of this as it was. */
    static void state(String what, CourseMonitor m, int depth, int steps, int length) {
        due(what + ": depth()", m.depth(), depth);
        due(what + ": steps()", m.steps(), steps);
        due(what + ": length()", m.length(), length);
    }
}
