import java.util.ArrayList;
import java.util.List;

/** The document's words again, with trees and recursion: a second opinion on what each call must answer. */
final class Model {
    private record Formula(char kind, int fact, Formula x, Formula y) {
        boolean holdsAt(int i, List<Integer> course) {
            int n = course.size();
            switch (kind) {
                case '!': return !x.holdsAt(i, course);
                case '&': return x.holdsAt(i, course) && y.holdsAt(i, course);
                case '|': return x.holdsAt(i, course) || y.holdsAt(i, course);
                case 'X': return i + 1 < n && x.holdsAt(i + 1, course);
                case 'U': return thereIsK(i, course);
                default: return (course.get(i) & (1 << fact)) != 0;
            }
        }

        private boolean thereIsK(int i, List<Integer> course) {
            for (int k = i; k < course.size(); k++) {
                boolean due = y.holdsAt(k, course);
                for (int j = i; j < k; j++) {
                    due = due && x.holdsAt(j, course);
                }
                if (due) {
                    return true;
                }
            }
            return false;
        }

        boolean holdsWithoutInstants() {
            switch (kind) {
                case '!': return !x.holdsWithoutInstants();
                case '&': return x.holdsWithoutInstants() && y.holdsWithoutInstants();
                case '|': return x.holdsWithoutInstants() || y.holdsWithoutInstants();
                default: return false;
            }
        }
    }

    private List<Formula> stack = new ArrayList<>();
    private Formula used = new Formula('f', 0, null, null);
    private final List<Integer> course = new ArrayList<>();
    private int steps = 0;
    private int temporal = 0;

    int fact(int f) {
        if (f < 0 || f > 2) {
            return -1;
        }
        if (steps == 16 || stack.size() == 6) {
            return -2;
        }
        steps++;
        stack.add(new Formula('f', f, null, null));
        return stack.size();
    }

    int connect(char kind) {
        boolean isTemporal = kind == 'X' || kind == 'U';
        int needed = kind == '!' || kind == 'X' ? 1 : 2;
        if (steps == 16 || isTemporal && temporal == 6) {
            return -2;
        }
        if (stack.size() < needed) {
            return -3;
        }
        steps++;
        temporal += isTemporal ? 1 : 0;
        Formula y = needed == 2 ? stack.remove(stack.size() - 1) : null;
        Formula x = stack.remove(stack.size() - 1);
        stack.add(new Formula(kind, 0, x, y));
        return stack.size();
    }

    int steps() {
        return steps;
    }

    int depth() {
        return stack.size();
    }

    void discard() {
        stack = new ArrayList<>();
        steps = 0;
        temporal = 0;
    }

    int define() {
        int size = stack.size();
        if (size == 0) {
            return -3;
        }
        used = stack.get(size - 1);
        discard();
        return size;
    }

    int step(int facts) {
        if (facts < 0 || facts > 7) {
            return -1;
        }
        if (course.size() == 10) {
            return -2;
        }
        course.add(facts);
        return course.size();
    }

    int undo() {
        return course.isEmpty() ? -4 : course.remove(course.size() - 1);
    }

    void restart() {
        course.clear();
    }

    int length() {
        return course.size();
    }

    boolean holds() {
        return holdsFor(course);
    }

    boolean heldAfter(int k) {
        return k >= 0 && k <= course.size() && holdsFor(course.subList(0, k));
    }

    boolean wouldHold(int facts) {
        return facts >= 0 && facts <= 7 && holdsFor(followedBy(course, facts));
    }

    int wouldHoldWith() {
        int sum = 0;
        for (int facts = 0; facts < 8; facts++) {
            sum += wouldHold(facts) ? 1 << facts : 0;
        }
        return sum;
    }

    int soonest(boolean wanted) {
        for (int k = 0; k <= 2; k++) {
            if (canBecome(wanted, course, k)) {
                return k;
            }
        }
        return -4;
    }

    private boolean canBecome(boolean wanted, List<Integer> from, int further) {
        if (further == 0) {
            return holdsFor(from) == wanted;
        }
        for (int facts = 0; facts < 8; facts++) {
            if (canBecome(wanted, followedBy(from, facts), further - 1)) {
                return true;
            }
        }
        return false;
    }

    private boolean holdsFor(List<Integer> instants) {
        return instants.isEmpty() ? used.holdsWithoutInstants() : used.holdsAt(0, instants);
    }

    private static List<Integer> followedBy(List<Integer> from, int facts) {
        List<Integer> longer = new ArrayList<>(from);
        longer.add(facts);
        return longer;
    }
}
