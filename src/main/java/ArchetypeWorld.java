public final class ArchetypeWorld {
    public static final int BAD_ARG = -1;
    public static final int FULL = -2;
    public static final int NONE = -4;

    private static final int ENTITIES = 24;
    private static final int COMPONENTS = 6;
    private static final int VALUES = ENTITIES * COMPONENTS;
    private static final int SETS = 64;
    private static final int SYSTEMS = 8;
    private static final int MOST_FRAMES = 10;

    private static final int ADD = 0;
    private static final int SUBTRACT = 1;
    private static final int COPY = 2;
    private static final int MULTIPLY = 3;
    private static final int CLEAR_IF_NEGATIVE = 4;

    private final boolean[] alive = new boolean[ENTITIES];
    private final int[] setOf = new int[ENTITIES];
    // The values of one entity stand side by side. A value whose component
    // the entity does not have is left over and means nothing.
    private final int[] values = new int[VALUES];

    private final int[] withOf = new int[SYSTEMS];
    private final int[] withoutOf = new int[SYSTEMS];
    private final int[] kindOf = new int[SYSTEMS];
    private final int[] targetOf = new int[SYSTEMS];
    private final int[] sourceOf = new int[SYSTEMS];
    // Kept from the time a system is added: only the last system is ever
    // removed, so the systems before it, on which its stage rests, stay.
    private final int[] stageOf = new int[SYSTEMS];
    private int systemCount;

    public ArchetypeWorld() {
        systemCount = 0;
    }

    public int spawn(int set, int value) {
        if (!isSet(set)) {
            return BAD_ARG;
        }
        for (int e = 0; e < ENTITIES; e++) {
            if (!alive[e]) {
                bringToLife(e, set, value);
                return e;
            }
        }
        return FULL;
    }

    public int kill(int e) {
        if (!lives(e)) {
            return NONE;
        }
        alive[e] = false;
        return setOf[e];
    }

    public int put(int e, int c, int value) {
        if (!lives(e)) {
            return NONE;
        }
        if (!isComponent(c)) {
            return BAD_ARG;
        }
        int before = contains(setOf[e], c) ? 1 : 0;
        setOf[e] |= 1 << c;
        values[e * COMPONENTS + c] = value;
        return before;
    }

    public int drop(int e, int c) {
        if (!lives(e)) {
            return NONE;
        }
        if (!isComponent(c)) {
            return BAD_ARG;
        }
        int before = contains(setOf[e], c) ? 1 : 0;
        setOf[e] &= ~(1 << c);
        return before;
    }

    public int get(int e, int c) {
        if (!lives(e) || !isComponent(c) || !contains(setOf[e], c)) {
            return 0;
        }
        return values[e * COMPONENTS + c];
    }

    public int parts(int e) {
        return lives(e) ? setOf[e] : NONE;
    }

    public int living() {
        int found = 0;
        for (int e = 0; e < ENTITIES; e++) {
            if (alive[e]) {
                found++;
            }
        }
        return found;
    }

    public int count(int with, int without) {
        if (!isSet(with) || !isSet(without)) {
            return BAD_ARG;
        }
        int found = 0;
        for (int e = 0; e < ENTITIES; e++) {
            if (fits(e, with, without)) {
                found++;
            }
        }
        return found;
    }

    public int next(int with, int without, int from) {
        if (!isSet(with) || !isSet(without)) {
            return BAD_ARG;
        }
        int first = from < 0 ? 0 : from;
        for (int e = first; e < ENTITIES; e++) {
            if (fits(e, with, without)) {
                return e;
            }
        }
        return NONE;
    }

    public int sum(int with, int without, int c) {
        if (!isSet(with) || !isSet(without) || !isComponent(c)) {
            return 0;
        }
        int total = 0;
        for (int e = 0; e < ENTITIES; e++) {
            if (fits(e, with, without) && contains(setOf[e], c)) {
                total += values[e * COMPONENTS + c];
            }
        }
        return total;
    }

    public int kinds() {
        int found = 0;
        for (int e = 0; e < ENTITIES; e++) {
            if (alive[e] && isFirstWithItsSet(e)) {
                found++;
            }
        }
        return found;
    }

    public int system(int sets, int work) {
        if (sets < 0 || sets >= SETS * SETS) {
            return BAD_ARG;
        }
        int with = sets % SETS;
        if (!isWorkOn(work, with)) {
            return BAD_ARG;
        }
        if (systemCount >= SYSTEMS) {
            return FULL;
        }
        int s = systemCount;
        withOf[s] = with;
        withoutOf[s] = sets / SETS;
        kindOf[s] = kindIn(work);
        targetOf[s] = targetIn(work);
        sourceOf[s] = sourceIn(work);
        stageOf[s] = stageBehindEarlier(s);
        systemCount++;
        return s;
    }

    public int unsystem() {
        if (systemCount == 0) {
            return NONE;
        }
        systemCount--;
        return systemCount;
    }

    public int stage(int s) {
        if (s < 0 || s >= systemCount) {
            return NONE;
        }
        return stageOf[s];
    }

    public int stages() {
        int found = 0;
        for (int s = 0; s < systemCount; s++) {
            if (stageOf[s] >= found) {
                found = stageOf[s] + 1;
            }
        }
        return found;
    }

    public int frame(int n) {
        int frames = n > MOST_FRAMES ? MOST_FRAMES : n;
        int worked = 0;
        for (int f = 0; f < frames; f++) {
            worked += runOneFrame();
        }
        return worked;
    }

    public int digest() {
        int total = 0;
        for (int e = 0; e < ENTITIES; e++) {
            if (alive[e]) {
                total += digestOf(e);
            }
        }
        return total;
    }

    private static boolean isSet(int set) {
        return set >= 0 && set < SETS;
    }

    private static boolean isComponent(int c) {
        return c >= 0 && c < COMPONENTS;
    }

    private static boolean contains(int set, int c) {
        return (set & (1 << c)) != 0;
    }

    // The range of a component is looked at before the set is: Java shifts by
    // the low five bits alone, so 32 would pass for component 0.
    private static boolean isComponentOf(int c, int set) {
        return isComponent(c) && contains(set, c);
    }

    private static int kindIn(int work) {
        return work & 7;
    }

    private static int targetIn(int work) {
        return (work >> 3) & 7;
    }

    private static int sourceIn(int work) {
        return work >> 6;
    }

    private static boolean isWorkOn(int work, int with) {
        if (work < 0 || kindIn(work) > CLEAR_IF_NEGATIVE) {
            return false;
        }
        int a = targetIn(work);
        int b = sourceIn(work);
        return isComponentOf(a, with) && isComponentOf(b, with);
    }

    private boolean lives(int e) {
        return e >= 0 && e < ENTITIES && alive[e];
    }

    private boolean fits(int e, int with, int without) {
        return lives(e) && (setOf[e] & with) == with && (setOf[e] & without) == 0;
    }

    private void bringToLife(int e, int set, int value) {
        alive[e] = true;
        setOf[e] = set;
        for (int c = 0; c < COMPONENTS; c++) {
            values[e * COMPONENTS + c] = value;
        }
    }

    private boolean isFirstWithItsSet(int e) {
        for (int earlier = 0; earlier < e; earlier++) {
            if (alive[earlier] && setOf[earlier] == setOf[e]) {
                return false;
            }
        }
        return true;
    }

    // A system writes a and reads b, so it reads or writes just a and b. That
    // kind 2 does not read a changes nothing here, for it still writes a.
    private boolean conflict(int s, int t) {
        return targetOf[s] == targetOf[t]
            || targetOf[s] == sourceOf[t]
            || targetOf[t] == sourceOf[s];
    }

    private int stageBehindEarlier(int s) {
        int stage = 0;
        for (int earlier = 0; earlier < s; earlier++) {
            if (conflict(s, earlier) && stageOf[earlier] >= stage) {
                stage = stageOf[earlier] + 1;
            }
        }
        return stage;
    }

    private int runOneFrame() {
        int worked = 0;
        int end = stages();
        for (int stage = 0; stage < end; stage++) {
            for (int s = 0; s < systemCount; s++) {
                if (stageOf[s] == stage) {
                    worked += runSystem(s);
                }
            }
        }
        return worked;
    }

    private int runSystem(int s) {
        int worked = 0;
        for (int e = 0; e < ENTITIES; e++) {
            if (fits(e, withOf[s], withoutOf[s])) {
                int target = e * COMPONENTS + targetOf[s];
                int source = e * COMPONENTS + sourceOf[s];
                values[target] = workedValue(kindOf[s], values[target], values[source]);
                worked++;
            }
        }
        return worked;
    }

    private static int workedValue(int kind, int a, int b) {
        switch (kind) {
            case ADD:
                return a + b;
            case SUBTRACT:
                return a - b;
            case COPY:
                return b;
            case MULTIPLY:
                return a * b;
            default:
                return b < 0 ? 0 : a;
        }
    }

    private int digestOf(int e) {
        int total = 0;
        for (int c = 0; c < COMPONENTS; c++) {
            if (contains(setOf[e], c)) {
                total += (COMPONENTS * e + c + 1) * values[e * COMPONENTS + c];
            }
        }
        return total;
    }
}
