import java.util.ArrayList;
import java.util.HashSet;
import java.util.List;
import java.util.TreeMap;

/** A second writing of the document, over maps and lists, to hold the class against. */
final class Model {
    private final TreeMap<Integer, TreeMap<Integer, Integer>> entities = new TreeMap<>();
    private final List<int[]> systems = new ArrayList<>();

    private static boolean isSet(int set) {
        return 0 <= set && set <= 63;
    }

    private static boolean isComponent(int c) {
        return 0 <= c && c <= 5;
    }

    private static HashSet<Integer> members(int set) {
        HashSet<Integer> members = new HashSet<>();
        for (int c = 0, rest = set; c < 6; c++, rest /= 2) {
            if (rest % 2 == 1) {
                members.add(c);
            }
        }
        return members;
    }

    private static int number(Iterable<Integer> members) {
        int number = 0;
        for (int c : members) {
            number += new int[] {1, 2, 4, 8, 16, 32}[c];
        }
        return number;
    }

    private List<Integer> fitting(int with, int without) {
        List<Integer> found = new ArrayList<>();
        for (int e : entities.keySet()) {
            HashSet<Integer> banned = members(without);
            banned.retainAll(entities.get(e).keySet());
            if (entities.get(e).keySet().containsAll(members(with)) && banned.isEmpty()) {
                found.add(e);
            }
        }
        return found;
    }

    int spawn(int set, int value) {
        if (!isSet(set)) {
            return -1;
        }
        if (entities.size() == 24) {
            return -2;
        }
        int e = 0;
        while (entities.containsKey(e)) {
            e++;
        }
        TreeMap<Integer, Integer> parts = new TreeMap<>();
        for (int c : members(set)) {
            parts.put(c, value);
        }
        entities.put(e, parts);
        return e;
    }

    int kill(int e) {
        TreeMap<Integer, Integer> parts = entities.remove(e);
        return parts == null ? -4 : number(parts.keySet());
    }

    int put(int e, int c, int value) {
        if (!entities.containsKey(e)) {
            return -4;
        }
        if (!isComponent(c)) {
            return -1;
        }
        return entities.get(e).put(c, value) == null ? 0 : 1;
    }

    int drop(int e, int c) {
        if (!entities.containsKey(e)) {
            return -4;
        }
        if (!isComponent(c)) {
            return -1;
        }
        return entities.get(e).remove(c) == null ? 0 : 1;
    }

    int get(int e, int c) {
        return entities.containsKey(e) ? entities.get(e).getOrDefault(c, 0) : 0;
    }

    int parts(int e) {
        return entities.containsKey(e) ? number(entities.get(e).keySet()) : -4;
    }

    int living() {
        return entities.size();
    }

    int count(int with, int without) {
        return isSet(with) && isSet(without) ? fitting(with, without).size() : -1;
    }

    int next(int with, int without, int from) {
        if (!isSet(with) || !isSet(without)) {
            return -1;
        }
        for (int e : fitting(with, without)) {
            if (e >= from) {
                return e;
            }
        }
        return -4;
    }

    int sum(int with, int without, int c) {
        if (!isSet(with) || !isSet(without) || !isComponent(c)) {
            return 0;
        }
        long total = 0;
        for (int e : fitting(with, without)) {
            total += get(e, c);
        }
        return (int) total;
    }

    int kinds() {
        HashSet<Integer> sets = new HashSet<>();
        for (int e : entities.keySet()) {
            sets.add(parts(e));
        }
        return sets.size();
    }

    int system(int sets, int work) {
        if (sets < 0 || sets > 4095 || work < 0) {
            return -1;
        }
        int[] added = {sets % 64, sets / 64, work % 8, work / 8 % 8, work / 64};
        HashSet<Integer> with = members(added[0]);
        if (added[2] > 4 || !with.contains(added[3]) || !with.contains(added[4])) {
            return -1;
        }
        if (systems.size() == 8) {
            return -2;
        }
        systems.add(added);
        return systems.size() - 1;
    }

    int unsystem() {
        if (systems.isEmpty()) {
            return -4;
        }
        systems.remove(systems.size() - 1);
        return systems.size();
    }

    private static HashSet<Integer> writes(int[] system) {
        HashSet<Integer> written = new HashSet<>();
        written.add(system[3]);
        return written;
    }

    /** Kind 2 to the letter, though the class leaves it out of its conflicts as changing nothing there. */
    private static HashSet<Integer> reads(int[] system) {
        HashSet<Integer> read = new HashSet<>();
        read.add(system[4]);
        if (system[2] != 2) {
            read.add(system[3]);
        }
        return read;
    }

    private static boolean writesWhatTheOtherUses(int[] one, int[] other) {
        HashSet<Integer> used = reads(other);
        used.addAll(writes(other));
        used.retainAll(writes(one));
        return !used.isEmpty();
    }

    int stage(int s) {
        if (s < 0 || s >= systems.size()) {
            return -4;
        }
        int stage = 0;
        for (int t = 0; t < s; t++) {
            int[] one = systems.get(s);
            int[] other = systems.get(t);
            if (writesWhatTheOtherUses(one, other) || writesWhatTheOtherUses(other, one)) {
                stage = Math.max(stage, stage(t) + 1);
            }
        }
        return stage;
    }

    int stages() {
        int found = 0;
        for (int s = 0; s < systems.size(); s++) {
            found = Math.max(found, stage(s) + 1);
        }
        return found;
    }

    /** The highest number first within a stage: the order there is free. */
    int frame(int n) {
        int worked = 0;
        for (int f = 0; f < Math.min(n, 10); f++) {
            for (int stage = 0; stage < stages(); stage++) {
                for (int s = systems.size() - 1; s >= 0; s--) {
                    worked += stage(s) == stage ? run(systems.get(s)) : 0;
                }
            }
        }
        return worked;
    }

    private int run(int[] system) {
        List<Integer> fitting = fitting(system[0], system[1]);
        for (int e : fitting) {
            long a = get(e, system[3]);
            long b = get(e, system[4]);
            long[] result = {a + b, a - b, b, a * b, b < 0 ? 0 : a};
            entities.get(e).put(system[3], (int) result[system[2]]);
        }
        return fitting.size();
    }

    int digest() {
        long total = 0;
        for (int e : entities.keySet()) {
            for (int c : entities.get(e).keySet()) {
                total += (int) ((6L * e + c + 1) * get(e, c));
            }
        }
        return (int) total;
    }
}
