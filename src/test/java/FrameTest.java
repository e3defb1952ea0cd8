/** Promise 17 and what 19 says of frame, for ordinary arguments. */
public final class FrameTest {
    private static final int[] VALUES = {0, 1, -1, 2, -7, 46341, 65536, Edges.MAX, Edges.MIN, Edges.MIN + 1};

    public static void main(String[] args) {
        promise17EveryKind();
        promise17WhichEntities();
        promise17ConflictsRunInOrder();
        promise17StageBeforeNumber();
        promise19CountsWithoutChange();
        Check.end();
    }

    private static int dueValue(int kind, int a, int b) {
        int[] due = {a + b, a - b, b, a * b, b < 0 ? 0 : a};
        return due[kind];
    }

    private static void promise17EveryKind() {
        for (int kind = 0; kind < 5; kind++) {
            for (int a : VALUES) {
                for (int b : VALUES) {
                    ArchetypeWorld w = new ArchetypeWorld();
                    w.spawn(63, 77);
                    w.put(0, 5, a);
                    w.put(0, 2, b);
                    w.system(36, Check.work(kind, 5, 2));
                    String what = "17: kind " + kind + " of " + a + " and " + b;
                    Check.due(what + ": frame", w.frame(1), 1);
                    Check.due(what + ": a", w.get(0, 5), dueValue(kind, a, b));
                    Check.due(what + ": b", w.get(0, 2), b);
                    Check.due(what + ": another", w.get(0, 0), 77);
                }
            }
        }
    }

    private static void promise17WhichEntities() {
        ArchetypeWorld w = new ArchetypeWorld();
        int[] sets = {3, 7, 1, 0, 35, 2, 3};
        for (int set : sets) {
            w.spawn(set, 10);
        }
        w.kill(6);
        w.system(Check.sets(3, 4), Check.work(0, 0, 1));
        Check.due("17: those with 0 and 1 and without 2", w.frame(1), 2);
        int[] due = {20, 10, 10, 0, 20, 0, 0};
        for (int e = 0; e < due.length; e++) {
            Check.due("17: get(" + e + ", 0)", w.get(e, 0), due[e]);
        }
        Check.due("17: no part appears", w.parts(3), 0);
        w.spawn(3, 1);
        Check.due("17: the dead was not worked on, the new one is", w.get(6, 0), 1);
        w.drop(1, 2);
        Check.due("17: entities change between frames", w.frame(1), 4);
        Check.due("17: it fits now", w.get(1, 0), 20);
        Check.due("17: a new one", w.get(6, 0), 2);
        // WITH may ask for more than a and b.
        w.system(Check.sets(35, 0), Check.work(2, 1, 0));
        Check.due("17: more parts asked than used", w.frame(1), 5);
        Check.due("17: the one with part 5", w.get(4, 1), w.get(4, 0));
        Check.due("17: one without part 5", w.get(0, 1), 10);
    }

    private static void promise17ConflictsRunInOrder() {
        ArchetypeWorld w = new ArchetypeWorld();
        w.spawn(3, 0);
        w.put(0, 0, 2);
        w.put(0, 1, 5);
        w.system(3, Check.work(0, 0, 1));
        w.system(3, Check.work(3, 0, 1));
        w.system(3, Check.work(2, 1, 0));
        w.system(3, Check.work(1, 0, 1));
        Check.due("17: four systems", w.frame(1), 4);
        Check.due("17: (2 + 5) * 5, less itself", w.get(0, 0), 0);
        Check.due("17: the copy between", w.get(0, 1), 35);
        Check.due("17: again", w.frame(1), 4);
        Check.due("17: (0 + 35) * 35, less itself", w.get(0, 0), 0);
        Check.due("17: the copy between, again", w.get(0, 1), 1225);
    }

    /** System 2 stands in stage 0, before system 1; whichever runs first, the values are the same. */
    private static void promise17StageBeforeNumber() {
        ArchetypeWorld w = new ArchetypeWorld();
        w.spawn(15, 3);
        w.system(15, Check.work(0, 0, 1));
        w.system(15, Check.work(3, 0, 1));
        w.system(15, Check.work(0, 2, 3));
        w.system(15, Check.work(1, 0, 2));
        Check.due("17: three stages", w.stages(), 3);
        Check.due("17: four systems", w.frame(1), 4);
        Check.due("17: (3 + 3) * 3 - (3 + 3)", w.get(0, 0), 12);
        Check.due("17: 3 + 3", w.get(0, 2), 6);
    }

    private static void promise19CountsWithoutChange() {
        ArchetypeWorld w = new ArchetypeWorld();
        w.spawn(3, 0);
        w.spawn(3, 8);
        w.system(3, Check.work(4, 0, 1));
        Check.due("19: kind 4 where nothing is negative", w.frame(1), 2);
        Check.due("19: no change", w.get(1, 0), 8);
        w.system(3, Check.work(2, 0, 0));
        Check.due("19: a copy onto itself", w.frame(1), 4);
        w.system(3, Check.work(0, 0, 1));
        Check.due("19: 0 added to 0 counts too", w.frame(3), 18);
        Check.due("19: 0 stays", w.get(0, 0), 0);
        Check.due("19: 8 + 3 times 8", w.get(1, 0), 32);
    }
}
