/** Promises 1 to 8: a new object, spawn, kill, put, drop, get, parts and living. */
public final class EntityTest {
    private static final int BAD_ARG = ArchetypeWorld.BAD_ARG;
    private static final int FULL = ArchetypeWorld.FULL;
    private static final int NONE = ArchetypeWorld.NONE;
    private static final int MIN = Integer.MIN_VALUE;
    private static final int MAX = Integer.MAX_VALUE;
    private static final int[] NOT_ENTITIES = {-1, 24, 25, -24, MIN, MAX};
    private static final int[] NOT_COMPONENTS = {-1, 6, 7, 31, 32, -32, MIN, MAX};
    private static final int[] NOT_SETS = {-1, 64, 65, -64, MIN, MAX};

    public static void main(String[] args) {
        promise1();
        promise1ObjectsShareNothing();
        promise2();
        promise2LeastFreeNumber();
        promise2NothingIsLeftOfTheDead();
        promise2Refused();
        promise3();
        promise3Refused();
        promise4();
        promise4Refused();
        promise5();
        promise5Refused();
        promise6();
        promise7();
        promise8();
        Check.end();
    }

    private static void promise1() {
        ArchetypeWorld w = new ArchetypeWorld();
        Check.due("1: living", w.living(), 0);
        Check.due("1: kinds", w.kinds(), 0);
        Check.due("1: stages", w.stages(), 0);
        Check.due("1: digest", w.digest(), 0);
        Check.due("1: frame(1)", w.frame(1), 0);
        Check.due("1: unsystem", w.unsystem(), NONE);
        Check.due("1: count(0, 0)", w.count(0, 0), 0);
        Check.due("1: next(0, 0, 0)", w.next(0, 0, 0), NONE);
        Check.due("1: sum(0, 0, 0)", w.sum(0, 0, 0), 0);
        for (int e = 0; e < 24; e++) {
            Check.due("1: parts(" + e + ")", w.parts(e), NONE);
        }
        for (int s = 0; s < 8; s++) {
            Check.due("1: stage(" + s + ")", w.stage(s), NONE);
        }
    }

    private static void promise1ObjectsShareNothing() {
        ArchetypeWorld one = new ArchetypeWorld();
        one.spawn(63, 5);
        one.system(1, 0);
        ArchetypeWorld other = new ArchetypeWorld();
        Check.due("1: living beside another", other.living(), 0);
        Check.due("1: stages beside another", other.stages(), 0);
        Check.due("1: the other keeps its entity", one.get(0, 5), 5);
        Check.due("1: the other keeps its system", one.stages(), 1);
    }

    private static void promise2() {
        for (int set = 0; set < 64; set++) {
            ArchetypeWorld w = new ArchetypeWorld();
            Check.due("2: spawn(" + set + ")", w.spawn(set, 7 - set), 0);
            Check.due("2: parts", w.parts(0), set);
            for (int c = 0; c < 6; c++) {
                int due = (set >> c) % 2 == 1 ? 7 - set : 0;
                Check.due("2: get(0, " + c + ") of " + set, w.get(0, c), due);
            }
            Check.due("2: parts(1)", w.parts(1), NONE);
        }
        ArchetypeWorld w = new ArchetypeWorld();
        Check.due("2: spawn with the least int", w.spawn(1, MIN), 0);
        Check.due("2: spawn with the greatest int", w.spawn(32, MAX), 1);
        Check.due("2: least int", w.get(0, 0), MIN);
        Check.due("2: greatest int", w.get(1, 5), MAX);
    }

    private static void promise2LeastFreeNumber() {
        ArchetypeWorld w = new ArchetypeWorld();
        Check.fill(w, 1, 1);
        w.kill(17);
        w.kill(4);
        w.kill(23);
        Check.due("2: least free first", w.spawn(2, 9), 4);
        Check.due("2: next free", w.spawn(4, 9), 17);
        Check.due("2: last free", w.spawn(8, 9), 23);
        Check.due("2: none free", w.spawn(8, 9), FULL);
        Check.due("2: parts(4)", w.parts(4), 2);
        Check.due("2: parts(17)", w.parts(17), 4);
        Check.due("2: parts(23)", w.parts(23), 8);
        Check.due("2: parts(5) as before", w.parts(5), 1);
    }

    private static void promise2NothingIsLeftOfTheDead() {
        ArchetypeWorld w = new ArchetypeWorld();
        w.spawn(63, 100);
        w.kill(0);
        w.spawn(5, 2);
        Check.due("2: parts after the dead", w.parts(0), 5);
        Check.due("2: get(0, 0)", w.get(0, 0), 2);
        Check.due("2: get(0, 1)", w.get(0, 1), 0);
        Check.due("2: get(0, 2)", w.get(0, 2), 2);
        Check.due("2: digest", w.digest(), 2 + 3 * 2);
    }

    private static void promise2Refused() {
        ArchetypeWorld w = new ArchetypeWorld();
        for (int set : NOT_SETS) {
            Check.due("2: spawn(" + set + ")", w.spawn(set, 1), BAD_ARG);
        }
        Check.due("2: none lives after refusals", w.living(), 0);
        Check.fill(w, 3, 1);
        Check.due("2: a 25th", w.spawn(0, 5), FULL);
        for (int set : NOT_SETS) {
            Check.due("2: BAD_ARG before FULL", w.spawn(set, 1), BAD_ARG);
        }
        Check.due("2: sum after refusals", w.sum(0, 0, 0), 24);
    }

    private static void promise3() {
        ArchetypeWorld w = new ArchetypeWorld();
        Check.fill(w, 9, 4);
        w.put(23, 5, 1);
        w.drop(0, 3);
        Check.due("3: kill(23)", w.kill(23), 41);
        Check.due("3: kill(0)", w.kill(0), 1);
        Check.due("3: kill(12)", w.kill(12), 9);
        Check.due("3: living", w.living(), 21);
        Check.due("3: parts(12)", w.parts(12), NONE);
        Check.due("3: get(12, 0)", w.get(12, 0), 0);
        Check.due("3: kill(12) again", w.kill(12), NONE);
        Check.due("3: neighbours live", w.parts(11) + w.parts(13), 18);
        ArchetypeWorld empty = new ArchetypeWorld();
        empty.spawn(0, 3);
        Check.due("3: kill one without parts", empty.kill(0), 0);
        Check.due("3: and it is gone", empty.parts(0), NONE);
    }

    private static void promise3Refused() {
        ArchetypeWorld w = new ArchetypeWorld();
        Check.due("3: kill in a new world", w.kill(0), NONE);
        Check.fill(w, 1, 1);
        for (int e : NOT_ENTITIES) {
            Check.due("3: kill(" + e + ")", w.kill(e), NONE);
        }
        Check.due("3: all live", w.living(), 24);
    }

    private static void promise4() {
        ArchetypeWorld w = new ArchetypeWorld();
        Check.fill(w, 0, 0);
        for (int c = 0; c < 6; c++) {
            Check.due("4: put of a new part", w.put(23, c, 10 + c), 0);
            Check.due("4: put of an old part", w.put(23, c, 20 + c), 1);
            Check.due("4: get", w.get(23, c), 20 + c);
            Check.due("4: parts", w.parts(23), (2 << c) - 1);
        }
        for (int c = 0; c < 6; c++) {
            Check.due("4: each part has its own value", w.get(23, c), 20 + c);
        }
        Check.due("4: the others have none", w.parts(22), 0);
        Check.due("4: put of 0 is a part", w.put(0, 2, 0), 0);
        Check.due("4: parts with 0", w.parts(0), 4);
        Check.due("4: put over 0", w.put(0, 2, MIN), 1);
        Check.due("4: least int", w.get(0, 2), MIN);
        Check.due("4: drop", w.drop(0, 2), 1);
        Check.due("4: put after drop", w.put(0, 2, 6), 0);
        Check.due("4: value after drop and put", w.get(0, 2), 6);
    }

    private static void promise4Refused() {
        ArchetypeWorld w = new ArchetypeWorld();
        w.spawn(21, 3);
        for (int c : NOT_COMPONENTS) {
            Check.due("4: put(0, " + c + ")", w.put(0, c, 99), BAD_ARG);
            Check.due("4: NONE before BAD_ARG", w.put(1, c, 99), NONE);
        }
        for (int e : NOT_ENTITIES) {
            Check.due("4: put(" + e + ", 0)", w.put(e, 0, 99), NONE);
            Check.due("4: put(" + e + ", 6)", w.put(e, 6, 99), NONE);
        }
        Check.due("4: parts after refusals", w.parts(0), 21);
        Check.due("4: digest after refusals", w.digest(), 3 * (1 + 3 + 5));
        Check.due("4: living after refusals", w.living(), 1);
    }

    private static void promise5() {
        ArchetypeWorld w = new ArchetypeWorld();
        Check.fill(w, 63, 7);
        int left = 63;
        for (int c = 5; c >= 0; c--) {
            left -= 1 << c;
            Check.due("5: drop", w.drop(23, c), 1);
            Check.due("5: drop again", w.drop(23, c), 0);
            Check.due("5: parts", w.parts(23), left);
            Check.due("5: get", w.get(23, c), 0);
        }
        Check.due("5: without parts it lives", w.living(), 24);
        Check.due("5: the others keep theirs", w.parts(22), 63);
        w.drop(0, 1);
        Check.due("5: the other values stay", w.get(0, 0) + w.get(0, 2), 14);
    }

    private static void promise5Refused() {
        ArchetypeWorld w = new ArchetypeWorld();
        w.spawn(63, 3);
        for (int c : NOT_COMPONENTS) {
            Check.due("5: drop(0, " + c + ")", w.drop(0, c), BAD_ARG);
            Check.due("5: NONE before BAD_ARG", w.drop(1, c), NONE);
        }
        for (int e : NOT_ENTITIES) {
            Check.due("5: drop(" + e + ", 0)", w.drop(e, 0), NONE);
            Check.due("5: drop(" + e + ", 6)", w.drop(e, 6), NONE);
        }
        Check.due("5: parts after refusals", w.parts(0), 63);
    }

    private static void promise6() {
        ArchetypeWorld w = new ArchetypeWorld();
        Check.fill(w, 63, 0);
        for (int e = 0; e < 24; e++) {
            for (int c = 0; c < 6; c++) {
                w.put(e, c, 100 * e + c - 50);
            }
        }
        for (int e = 0; e < 24; e++) {
            for (int c = 0; c < 6; c++) {
                Check.due("6: get(" + e + ", " + c + ")", w.get(e, c), 100 * e + c - 50);
            }
        }
        for (int c : NOT_COMPONENTS) {
            Check.due("6: get(1, " + c + ")", w.get(1, c), 0);
        }
        for (int e : NOT_ENTITIES) {
            Check.due("6: get(" + e + ", 0)", w.get(e, 0), 0);
        }
        w.drop(3, 2);
        Check.due("6: get of a dropped part", w.get(3, 2), 0);
        w.kill(4);
        Check.due("6: get of a dead one", w.get(4, 2), 0);
    }

    private static void promise7() {
        ArchetypeWorld w = new ArchetypeWorld();
        for (int e = 0; e < 24; e++) {
            w.spawn(2 * e + 1, 0);
        }
        for (int e = 0; e < 24; e++) {
            Check.due("7: parts(" + e + ")", w.parts(e), 2 * e + 1);
        }
        for (int e : NOT_ENTITIES) {
            Check.due("7: parts(" + e + ")", w.parts(e), NONE);
        }
        w.kill(8);
        Check.due("7: parts of a dead one", w.parts(8), NONE);
        w.spawn(0, 1);
        Check.due("7: parts of one without parts", w.parts(8), 0);
    }

    private static void promise8() {
        ArchetypeWorld w = new ArchetypeWorld();
        for (int e = 0; e < 24; e++) {
            Check.due("8: living", w.living(), e);
            w.spawn(e, 1);
        }
        Check.due("8: all live", w.living(), 24);
        w.spawn(1, 1);
        Check.due("8: living after FULL", w.living(), 24);
        for (int e = 23; e >= 0; e--) {
            w.kill(e);
            w.kill(e);
            Check.due("8: living", w.living(), e);
        }
    }
}
