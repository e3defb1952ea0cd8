import java.util.ArrayList;
import java.util.HashSet;
import java.util.List;
import java.util.Random;
import java.util.TreeMap;

/**
 * Long runs of calls, right and wrong ones mixed, against a second writing of the document that
 * holds its state in other ways. The seeds are fixed, so each run is the same every time.
 */
public final class ModelTest {
    private static final int RUNS = 1000;
    private static final int CALLS = 300;
    private static final int[] ODD = {
        Integer.MIN_VALUE, Integer.MIN_VALUE + 1, -4096, -65, -64, -33, -32, -2, -1, 5, 6, 7, 8, 9, 23, 24, 25, 31, 32,
        63, 64, 65, 383, 384, 4095, 4096, 1 << 30, Integer.MAX_VALUE - 1, Integer.MAX_VALUE};

    /** The document's words over maps and lists. */
    private static final class Model {
        private final TreeMap<Integer, TreeMap<Integer, Integer>> entities = new TreeMap<>();
        private final List<int[]> systems = new ArrayList<>();

        private static boolean isSet(int set) {
            return 0 <= set && set <= 63;
        }

        private static boolean isComponent(int c) {
            return 0 <= c && c <= 5;
        }

        private static HashSet<Integer> members(int set) {
            HashSet<Integer> members = new HashSet<>();
            for (int c = 0, rest = set; c < 6; c++, rest /= 2) {
                if (rest % 2 == 1) {
                    members.add(c);
                }
            }
            return members;
        }

        private static int number(Iterable<Integer> members) {
            int number = 0;
            for (int c : members) {
                number += new int[] {1, 2, 4, 8, 16, 32}[c];
            }
            return number;
        }

        private List<Integer> fitting(int with, int without) {
            List<Integer> found = new ArrayList<>();
            for (int e : entities.keySet()) {
                HashSet<Integer> banned = members(without);
                banned.retainAll(entities.get(e).keySet());
                if (entities.get(e).keySet().containsAll(members(with)) && banned.isEmpty()) {
                    found.add(e);
                }
            }
            return found;
        }

        int spawn(int set, int value) {
            if (!isSet(set)) {
                return -1;
            }
            if (entities.size() == 24) {
                return -2;
            }
            int e = 0;
            while (entities.containsKey(e)) {
                e++;
            }
            TreeMap<Integer, Integer> parts = new TreeMap<>();
            for (int c : members(set)) {
                parts.put(c, value);
            }
            entities.put(e, parts);
            return e;
        }

        int kill(int e) {
            TreeMap<Integer, Integer> parts = entities.remove(e);
            return parts == null ? -4 : number(parts.keySet());
        }

        int put(int e, int c, int value) {
            if (!entities.containsKey(e)) {
                return -4;
            }
            if (!isComponent(c)) {
                return -1;
            }
            return entities.get(e).put(c, value) == null ? 0 : 1;
        }

        int drop(int e, int c) {
            if (!entities.containsKey(e)) {
                return -4;
            }
            if (!isComponent(c)) {
                return -1;
            }
            return entities.get(e).remove(c) == null ? 0 : 1;
        }

        int get(int e, int c) {
            return entities.containsKey(e) ? entities.get(e).getOrDefault(c, 0) : 0;
        }

        int parts(int e) {
            return entities.containsKey(e) ? number(entities.get(e).keySet()) : -4;
        }

        int living() {
            return entities.size();
        }

        int count(int with, int without) {
            return isSet(with) && isSet(without) ? fitting(with, without).size() : -1;
        }

        int next(int with, int without, int from) {
            if (!isSet(with) || !isSet(without)) {
                return -1;
            }
            for (int e : fitting(with, without)) {
                if (e >= from) {
                    return e;
                }
            }
            return -4;
        }

        int sum(int with, int without, int c) {
            if (!isSet(with) || !isSet(without) || !isComponent(c)) {
                return 0;
            }
            long total = 0;
            for (int e : fitting(with, without)) {
                total += get(e, c);
            }
            return (int) total;
        }

        int kinds() {
            HashSet<Integer> sets = new HashSet<>();
            for (int e : entities.keySet()) {
                sets.add(parts(e));
            }
            return sets.size();
        }

        int system(int sets, int work) {
            if (sets < 0 || sets > 4095 || work < 0) {
                return -1;
            }
            int[] added = {sets % 64, sets / 64, work % 8, work / 8 % 8, work / 64};
            HashSet<Integer> with = members(added[0]);
            if (added[2] > 4 || !with.contains(added[3]) || !with.contains(added[4])) {
                return -1;
            }
            if (systems.size() == 8) {
                return -2;
            }
            systems.add(added);
            return systems.size() - 1;
        }

        int unsystem() {
            if (systems.isEmpty()) {
                return -4;
            }
            systems.remove(systems.size() - 1);
            return systems.size();
        }

        private static boolean writesWhatTheOtherUses(int[] one, int[] other) {
            HashSet<Integer> used = new HashSet<>();
            used.add(other[3]);
            used.add(other[4]);
            return used.contains(one[3]);
        }

        int stage(int s) {
            if (s < 0 || s >= systems.size()) {
                return -4;
            }
            int stage = 0;
            for (int t = 0; t < s; t++) {
                int[] one = systems.get(s);
                int[] other = systems.get(t);
                if (writesWhatTheOtherUses(one, other) || writesWhatTheOtherUses(other, one)) {
                    stage = Math.max(stage, stage(t) + 1);
                }
            }
            return stage;
        }

        int stages() {
            int found = 0;
            for (int s = 0; s < systems.size(); s++) {
                found = Math.max(found, stage(s) + 1);
            }
            return found;
        }

        /** The highest number first within a stage: the order there is free. */
        int frame(int n) {
            int worked = 0;
            for (int f = 0; f < Math.min(n, 10); f++) {
                for (int stage = 0; stage < stages(); stage++) {
                    for (int s = systems.size() - 1; s >= 0; s--) {
                        worked += stage(s) == stage ? run(systems.get(s)) : 0;
                    }
                }
            }
            return worked;
        }

        private int run(int[] system) {
            List<Integer> fitting = fitting(system[0], system[1]);
            for (int e : fitting) {
                long a = get(e, system[3]);
                long b = get(e, system[4]);
                long[] result = {a + b, a - b, b, a * b, b < 0 ? 0 : a};
                entities.get(e).put(system[3], (int) result[system[2]]);
            }
            return fitting.size();
        }

        int digest() {
            long total = 0;
            for (int e : entities.keySet()) {
                for (int c : entities.get(e).keySet()) {
                    total += (int) ((6L * e + c + 1) * get(e, c));
                }
            }
            return (int) total;
        }
    }

    private final Random random;
    private final ArchetypeWorld world = new ArchetypeWorld();
    private final Model model = new Model();
    private final String run;
    // In how many of 100 calls an argument may be an odd one, and how many of 100 calls kill.
    private final int oddShare;
    private final int killShare;

    private ModelTest(int seed) {
        random = new Random(seed);
        run = "run " + seed + ": ";
        oddShare = seed % 3 * 5;
        killShare = seed % 4 * 4;
    }

    public static void main(String[] args) {
        for (int seed = 0; seed < RUNS; seed++) {
            ModelTest test = new ModelTest(seed);
            for (int call = 0; call < CALLS; call++) {
                test.callOnce();
            }
            test.compareAll();
        }
        Check.end();
    }

    private int oddOr(int usual) {
        return random.nextInt(100) < oddShare ? ODD[random.nextInt(ODD.length)] : usual;
    }

    private int pick(int least, int most) {
        return oddOr(least + random.nextInt(most - least + 1));
    }

    private int pickValue() {
        return random.nextInt(4) == 0 ? random.nextInt() : random.nextInt(21) - 10;
    }

    /** Few members more often than many, so that something fits. */
    private int pickSmallSet() {
        return oddOr(random.nextInt(64) & random.nextInt(64));
    }

    private void callOnce() {
        int share = random.nextInt(100);
        if (share < killShare) {
            int e = pick(0, 23);
            Check.due(run + "kill(" + e + ")", world.kill(e), model.kill(e));
        } else if (share < 60) {
            changeOnce();
        } else {
            askOnce();
        }
    }

    private void changeOnce() {
        int e = pick(0, 23);
        int c = pick(0, 5);
        int value = pickValue();
        switch (random.nextInt(8)) {
            case 0, 1 -> {
                int set = pick(0, 63);
                Check.due(run + "spawn(" + set + ", " + value + ")", world.spawn(set, value), model.spawn(set, value));
            }
            case 2 -> Check.due(run + "put(" + e + ", " + c + ", " + value + ")",
                world.put(e, c, value), model.put(e, c, value));
            case 3 -> Check.due(run + "drop(" + e + ", " + c + ")", world.drop(e, c), model.drop(e, c));
            case 4, 5 -> systemOnce();
            case 6 -> {
                int n = pick(-1, 3);
                Check.due(run + "frame(" + n + ")", world.frame(n), model.frame(n));
            }
            default -> {
                if (random.nextInt(3) == 0) {
                    Check.due(run + "unsystem()", world.unsystem(), model.unsystem());
                }
            }
        }
    }

    private void systemOnce() {
        int a = random.nextInt(6);
        int b = random.nextInt(6);
        int with = 1 << a | 1 << b | random.nextInt(64) & random.nextInt(64) & random.nextInt(64);
        int without = random.nextInt(64) & random.nextInt(64) & ~with;
        int sets = oddOr(Check.sets(with, without));
        int work = oddOr(Check.work(random.nextInt(5), a, b));
        Check.due(run + "system(" + sets + ", " + work + ")", world.system(sets, work), model.system(sets, work));
    }

    private void askOnce() {
        int e = pick(0, 23);
        int c = pick(0, 5);
        int with = pickSmallSet();
        int without = pickSmallSet();
        String sets = with + ", " + without;
        switch (random.nextInt(10)) {
            case 0 -> Check.due(run + "get(" + e + ", " + c + ")", world.get(e, c), model.get(e, c));
            case 1 -> Check.due(run + "parts(" + e + ")", world.parts(e), model.parts(e));
            case 2 -> Check.due(run + "living()", world.living(), model.living());
            case 3 -> Check.due(run + "count(" + sets + ")", world.count(with, without), model.count(with, without));
            case 4 -> Check.due(run + "next(" + sets + ", " + e + ")",
                world.next(with, without, e), model.next(with, without, e));
            case 5 -> Check.due(run + "sum(" + sets + ", " + c + ")",
                world.sum(with, without, c), model.sum(with, without, c));
            case 6 -> Check.due(run + "kinds()", world.kinds(), model.kinds());
            case 7 -> {
                int s = pick(0, 8);
                Check.due(run + "stage(" + s + ")", world.stage(s), model.stage(s));
            }
            case 8 -> Check.due(run + "stages()", world.stages(), model.stages());
            default -> Check.due(run + "digest()", world.digest(), model.digest());
        }
    }

    /** All that can be asked, within the 512 calls of an object; a refused call that changed something shows here. */
    private void compareAll() {
        for (int e = 0; e < 24; e++) {
            Check.due(run + "at the end parts(" + e + ")", world.parts(e), model.parts(e));
            for (int c = 0; c < 6; c++) {
                Check.due(run + "at the end get(" + e + ", " + c + ")", world.get(e, c), model.get(e, c));
            }
        }
        for (int s = 0; s < 8; s++) {
            Check.due(run + "at the end stage(" + s + ")", world.stage(s), model.stage(s));
        }
        Check.due(run + "at the end frame(1)", world.frame(1), model.frame(1));
        Check.due(run + "at the end digest()", world.digest(), model.digest());
    }
}
