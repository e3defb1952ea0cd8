/** Promises 1 to 8 for ordinary arguments: a new object, spawn, kill, put, drop, get, parts and living. */
public final class EntityTest {
    private static final int FULL = ArchetypeWorld.FULL;
    private static final int NONE = ArchetypeWorld.NONE;

    public static void main(String[] args) {
        promise1ObjectsShareNothing();
        promise2();
        promise2LeastFreeNumber();
        promise2NothingIsLeftOfTheDead();
        promise3();
        promise4();
        promise5();
        promise6();
        promise7();
        promise8();
        Check.end();
    }

    private static void promise1ObjectsShareNothing() {
        ArchetypeWorld one = new ArchetypeWorld();
        one.spawn(63, 5);
        one.system(1, 0);
        ArchetypeWorld other = new ArchetypeWorld();
        Check.due("1: living beside another", other.living(), 0);
        Check.due("1: stages beside another", other.stages(), 0);
        Check.due("1: the other keeps its entity", one.get(0, 5), 5);
        Check.due("1: the other keeps its system", one.stages(), 1);
    }

    private static void promise2() {
        for (int set = 0; set < 64; set++) {
            ArchetypeWorld w = new ArchetypeWorld();
            Check.due("2: spawn(" + set + ")", w.spawn(set, 7 - set), 0);
            Check.due("2: parts", w.parts(0), set);
            for (int c = 0; c < 6; c++) {
                int due = (set >> c) % 2 == 1 ? 7 - set : 0;
                Check.due("2: get(0, " + c + ") of " + set, w.get(0, c), due);
            }
            Check.due("2: parts(1)", w.parts(1), NONE);
        }
    }

    private static void promise2LeastFreeNumber() {
        ArchetypeWorld w = new ArchetypeWorld();
        Check.fill(w, 1, 1);
        w.kill(17);
        w.kill(4);
        w.kill(23);
        Check.due("2: least free first", w.spawn(2, 9), 4);
        Check.due("2: next free", w.spawn(4, 9), 17);
        Check.due("2: last free", w.spawn(8, 9), 23);
        Check.due("2: none free", w.spawn(8, 9), FULL);
        Check.due("2: parts(4)", w.parts(4), 2);
        Check.due("2: parts(17)", w.parts(17), 4);
        Check.due("2: parts(23)", w.parts(23), 8);
        Check.due("2: parts(5) as before", w.parts(5), 1);
    }

    private static void promise2NothingIsLeftOfTheDead() {
        ArchetypeWorld w = new ArchetypeWorld();
        w.spawn(63, 100);
        w.kill(0);
        w.spawn(5, 2);
        Check.due("2: parts after the dead", w.parts(0), 5);
        Check.due("2: get(0, 0)", w.get(0, 0), 2);
        Check.due("2: get(0, 1)", w.get(0, 1), 0);
        Check.due("2: get(0, 2)", w.get(0, 2), 2);
        Check.due("2: digest", w.digest(), 2 + 3 * 2);
    }

    private static void promise3() {
        ArchetypeWorld w = new ArchetypeWorld();
        Check.fill(w, 9, 4);
        w.put(23, 5, 1);
        w.drop(0, 3);
        Check.due("3: kill(23)", w.kill(23), 41);
        Check.due("3: kill(0)", w.kill(0), 1);
        Check.due("3: kill(12)", w.kill(12), 9);
        Check.due("3: living", w.living(), 21);
        Check.due("3: parts(12)", w.parts(12), NONE);
        Check.due("3: get(12, 0)", w.get(12, 0), 0);
        Check.due("3: kill(12) again", w.kill(12), NONE);
        Check.due("3: neighbours live", w.parts(11) + w.parts(13), 18);
        ArchetypeWorld empty = new ArchetypeWorld();
        empty.spawn(0, 3);
        Check.due("3: kill one without parts", empty.kill(0), 0);
        Check.due("3: and it is gone", empty.parts(0), NONE);
    }

    private static void promise4() {
        ArchetypeWorld w = new ArchetypeWorld();
        Check.fill(w, 0, 0);
        for (int c = 0; c < 6; c++) {
            Check.due("4: put of a new part", w.put(23, c, 10 + c), 0);
            Check.due("4: put of an old part", w.put(23, c, 20 + c), 1);
            Check.due("4: get", w.get(23, c), 20 + c);
            Check.due("4: parts", w.parts(23), (2 << c) - 1);
        }
        for (int c = 0; c < 6; c++) {
            Check.due("4: each part has its own value", w.get(23, c), 20 + c);
        }
        Check.due("4: the others have none", w.parts(22), 0);
        Check.due("4: put of 0 is a part", w.put(0, 2, 0), 0);
        Check.due("4: parts with 0", w.parts(0), 4);
        Check.due("4: put over 0", w.put(0, 2, -9), 1);
        Check.due("4: value over 0", w.get(0, 2), -9);
        Check.due("4: drop", w.drop(0, 2), 1);
        Check.due("4: put after drop", w.put(0, 2, 6), 0);
        Check.due("4: value after drop and put", w.get(0, 2), 6);
    }

    private static void promise5() {
        ArchetypeWorld w = new ArchetypeWorld();
        Check.fill(w, 63, 7);
        int left = 63;
        for (int c = 5; c >= 0; c--) {
            left -= 1 << c;
            Check.due("5: drop", w.drop(23, c), 1);
            Check.due("5: drop again", w.drop(23, c), 0);
            Check.due("5: parts", w.parts(23), left);
            Check.due("5: get", w.get(23, c), 0);
        }
        Check.due("5: without parts it lives", w.living(), 24);
        Check.due("5: the others keep theirs", w.parts(22), 63);
        w.drop(0, 1);
        Check.due("5: the other values stay", w.get(0, 0) + w.get(0, 2), 14);
    }

    private static void promise6() {
        ArchetypeWorld w = new ArchetypeWorld();
        Check.fill(w, 63, 0);
        for (int e = 0; e < 24; e++) {
            for (int c = 0; c < 6; c++) {
                w.put(e, c, 100 * e + c - 50);
            }
        }
        for (int e = 0; e < 24; e++) {
            for (int c = 0; c < 6; c++) {
                Check.due("6: get(" + e + ", " + c + ")", w.get(e, c), 100 * e + c - 50);
            }
        }
        w.drop(3, 2);
        Check.due("6: get of a dropped part", w.get(3, 2), 0);
        w.kill(4);
        Check.due("6: get of a dead one", w.get(4, 2), 0);
    }

    private static void promise7() {
        ArchetypeWorld w = new ArchetypeWorld();
        for (int e = 0; e < 24; e++) {
            w.spawn(2 * e + 1, 0);
        }
        for (int e = 0; e < 24; e++) {
            Check.due("7: parts(" + e + ")", w.parts(e), 2 * e + 1);
        }
        w.kill(8);
        Check.due("7: parts of a dead one", w.parts(8), NONE);
        w.spawn(0, 1);
        Check.due("7: parts of one without parts", w.parts(8), 0);
    }

    private static void promise8() {
        ArchetypeWorld w = new ArchetypeWorld();
        for (int e = 0; e < 24; e++) {
            Check.due("8: living", w.living(), e);
            w.spawn(e, 1);
        }
        Check.due("8: all live", w.living(), 24);
        w.spawn(1, 1);
        Check.due("8: living after FULL", w.living(), 24);
        for (int e = 23; e >= 0; e--) {
            w.kill(e);
            w.kill(e);
            Check.due("8: living", w.living(), e);
        }
    }
}
