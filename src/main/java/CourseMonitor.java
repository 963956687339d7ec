/**
 * A formula about a course of events that has an end, watched while the course goes on:
 * whether it holds if the course ends now, and what could still happen.
 */
public final class CourseMonitor {
    public static final int BAD_ARG = -1;
    public static final int FULL = -2;
    public static final int TOO_FEW = -3;
    public static final int NONE = -4;

    private static final int FACTS = 3;
    private static final int INSTANTS = 8;
    private static final int MAX_STEPS = 16;
    private static final int MAX_DEPTH = 6;
    private static final int MAX_TEMPORAL = 6;
    private static final int MAX_LENGTH = 10;
    // The full course and the two further instants that soonest and soonestNot try.
    private static final int COURSE_ROOM = 12;

    private static final int FACT = 0;
    private static final int NOT = 1;
    private static final int AND = 2;
    private static final int OR = 3;
    private static final int NEXT = 4;
    private static final int UNTIL = 5;

    // The formulas being made: every accepted step is a node that stands after the nodes it is
    // made of. left is the number of the fact, or the node of X; right is the node of Y.
    private final int[] kind = new int[MAX_STEPS];
    private final int[] left = new int[MAX_STEPS];
    private final int[] right = new int[MAX_STEPS];
    private int stepCount;
    private int temporalCount;
    private final int[] stack = new int[MAX_DEPTH];
    private int stackSize;

    // The formula in use, in the same form; its last node is the formula itself.
    private final int[] usedKind = new int[MAX_STEPS];
    private final int[] usedLeft = new int[MAX_STEPS];
    private final int[] usedRight = new int[MAX_STEPS];
    private int usedSize;

    // The places past courseLength are scratch for the instants that are only tried.
    private final int[] course = new int[COURSE_ROOM];
    private int courseLength;

    // For each node in use the set of places where it holds, place i as bit i.
    private final int[] places = new int[MAX_STEPS];

    public CourseMonitor() {
        usedKind[0] = FACT;
        usedLeft[0] = 0;
        usedSize = 1;
    }

    public int fact(int f) {
        if (f < 0 || f >= FACTS) {
            return BAD_ARG;
        }
        if (noRoomFor(FACT) || stackSize >= MAX_DEPTH) {
            return FULL;
        }
        return replaceTop(0, FACT, f, 0);
    }

    public int not() {
        return makeUnary(NOT);
    }

    public int and() {
        return makeBinary(AND);
    }

    public int or() {
        return makeBinary(OR);
    }

    public int next() {
        return makeUnary(NEXT);
    }

    public int until() {
        return makeBinary(UNTIL);
    }

    public int steps() {
        return stepCount;
    }

    public int depth() {
        return stackSize;
    }

    public void discard() {
        emptyStack();
    }

    public int define() {
        if (stackSize < 1) {
            return TOO_FEW;
        }
        // The top formula is always the newest node, so all nodes made are taken over as they are.
        for (int i = 0; i < stepCount; i++) {
            usedKind[i] = kind[i];
            usedLeft[i] = left[i];
            usedRight[i] = right[i];
        }
        usedSize = stepCount;
        int formulas = stackSize;
        emptyStack();
        return formulas;
    }

    public int step(int facts) {
        if (!isInstant(facts)) {
            return BAD_ARG;
        }
        if (courseLength >= MAX_LENGTH) {
            return FULL;
        }
        course[courseLength] = facts;
        courseLength++;
        return courseLength;
    }

    public int undo() {
        if (courseLength < 1) {
            return NONE;
        }
        courseLength--;
        return course[courseLength];
    }

    public void restart() {
        courseLength = 0;
    }

    public int length() {
        return courseLength;
    }

    public boolean holds() {
        return holdsForFirst(courseLength);
    }

    public boolean heldAfter(int k) {
        return k >= 0 && k <= courseLength && holdsForFirst(k);
    }

    public boolean wouldHold(int facts) {
        return isInstant(facts) && holdsFollowedBy(facts);
    }

    public int wouldHoldWith() {
        int set = 0;
        for (int facts = 0; facts < INSTANTS; facts++) {
            if (holdsFollowedBy(facts)) {
                set |= 1 << facts;
            }
        }
        return set;
    }

    public int soonest() {
        return fewestFurther(true);
    }

    public int soonestNot() {
        return fewestFurther(false);
    }

    private static boolean isTemporal(int someKind) {
        return someKind == NEXT || someKind == UNTIL;
    }

    private boolean noRoomFor(int newKind) {
        return stepCount >= MAX_STEPS || (isTemporal(newKind) && temporalCount >= MAX_TEMPORAL);
    }

    private int makeUnary(int newKind) {
        if (noRoomFor(newKind)) {
            return FULL;
        }
        if (stackSize < 1) {
            return TOO_FEW;
        }
        return replaceTop(1, newKind, stack[stackSize - 1], 0);
    }

    private int makeBinary(int newKind) {
        if (noRoomFor(newKind)) {
            return FULL;
        }
        if (stackSize < 2) {
            return TOO_FEW;
        }
        return replaceTop(2, newKind, stack[stackSize - 2], stack[stackSize - 1]);
    }

    // The callers have seen to it that there is room for the node and that enough can be taken off.
    private int replaceTop(int taken, int newKind, int newLeft, int newRight) {
        kind[stepCount] = newKind;
        left[stepCount] = newLeft;
        right[stepCount] = newRight;
        stackSize -= taken;
        stack[stackSize] = stepCount;
        stackSize++;
        stepCount++;
        if (isTemporal(newKind)) {
            temporalCount++;
        }
        return stackSize;
    }

    private void emptyStack() {
        stackSize = 0;
        stepCount = 0;
        temporalCount = 0;
    }

    private static boolean isInstant(int facts) {
        return facts >= 0 && facts < INSTANTS;
    }

    private boolean holdsFollowedBy(int facts) {
        course[courseLength] = facts;
        return holdsForFirst(courseLength + 1);
    }

    private int fewestFurther(boolean wanted) {
        if (holdsForFirst(courseLength) == wanted) {
            return 0;
        }
        for (int first = 0; first < INSTANTS; first++) {
            course[courseLength] = first;
            if (holdsForFirst(courseLength + 1) == wanted) {
                return 1;
            }
        }
        for (int first = 0; first < INSTANTS; first++) {
            course[courseLength] = first;
            for (int second = 0; second < INSTANTS; second++) {
                course[courseLength + 1] = second;
                if (holdsForFirst(courseLength + 2) == wanted) {
                    return 2;
                }
            }
        }
        return NONE;
    }

    private boolean holdsForFirst(int n) {
        for (int node = 0; node < usedSize; node++) {
            places[node] = placesOf(node, n);
        }
        return (places[usedSize - 1] & 1) != 0;
    }

    // In the course without instants bit 0 stands for the course itself: fact, next and until
    // leave it unset, and not, and, or work on it as on a place.
    private int placesOf(int node, int n) {
        int x = usedLeft[node];
        int y = usedRight[node];
        switch (usedKind[node]) {
            case FACT:
                return placesOfFact(x, n);
            case NOT:
                return allPlaces(n) & ~places[x];
            case AND:
                return places[x] & places[y];
            case OR:
                return places[x] | places[y];
            case NEXT:
                return places[x] >> 1;
            default:
                return placesOfUntil(places[x], places[y], n);
        }
    }

    private static int allPlaces(int n) {
        return n == 0 ? 1 : (1 << n) - 1;
    }

    private int placesOfFact(int f, int n) {
        int set = 0;
        for (int i = 0; i < n; i++) {
            set |= ((course[i] >> f) & 1) << i;
        }
        return set;
    }

    // From the end: until holds at a place if Y does, or if X does and until holds at the next one.
    private static int placesOfUntil(int x, int y, int n) {
        int set = 0;
        for (int i = n - 1; i >= 0; i--) {
            set |= (y | (x & (set >> 1))) & (1 << i);
        }
        return set;
    }
}
