/** Promise 17 and what 19 says of frame, at their edges; above each test the document's sentence. */
public final class FrameEdgeTest {
    private static final int MIN = Edges.MIN;
    private static final int MAX = Edges.MAX;

    public static void main(String[] args) {
        termsAddWraps();
        termsSubtractWraps();
        termsCopyTakesAnyInt();
        termsMultiplyWraps();
        termsClearIfNegative();
        termsTheSameComponentTwice();
        termsWithoutTakenAsItIs();
        termsFirstAndLastEntity();
        termsStageByStage();
        promise17NoneIfLessThanOne();
        promise17AtMostTen();
        promise17TwentyFramesInTwoCalls();
        promise17NoSystem();
        promise17NoEntity();
        promise17NothingFits();
        promise17AllEntitiesAndSystems();
        promise19CountsWhereNoValueChanges();
        Check.end();
    }

    /** The first and the last place of an entity as a and b, one frame of this kind, and what a must become. */
    private static void work(int kind, int a, int b, int due) {
        ArchetypeWorld w = new ArchetypeWorld();
        w.spawn(63, 3);
        w.put(0, 0, a);
        w.put(0, 5, b);
        w.system(33, Check.work(kind, 0, 5));
        String what = "Terms: kind " + kind + " of " + a + " and " + b;
        Check.due(what + ": frame", w.frame(1), 1);
        Check.due(what, w.get(0, 0), due);
        Check.due(what + ": b stays", w.get(0, 5), b);
        Check.due(what + ": a neighbour stays", w.get(0, 1), 3);
    }

    /** "kind 0: value of a becomes value of a + value of b .. (ints wrap)" */
    private static void termsAddWraps() {
        work(0, MAX - 1, 1, MAX);
        work(0, MAX, 1, MIN);
        work(0, MAX, MAX, -2);
        work(0, MIN, -1, MAX);
        work(0, MIN, MIN, 0);
        work(0, MIN, MAX, -1);
        work(0, MAX, 0, MAX);
    }

    /** "kind 1: value of a becomes value of a - value of b .. (ints wrap)" */
    private static void termsSubtractWraps() {
        work(1, MIN + 1, 1, MIN);
        work(1, MIN, 1, MAX);
        work(1, MAX, -1, MIN);
        work(1, 0, MIN, MIN);
        work(1, -1, MIN, MAX);
        work(1, MIN, MIN, 0);
        work(1, MAX, MIN, -1);
    }

    /** "kind 2: value of a becomes the value of b" */
    private static void termsCopyTakesAnyInt() {
        work(2, 7, MIN, MIN);
        work(2, 7, MAX, MAX);
        work(2, 7, -1, -1);
        work(2, MIN, 0, 0);
        work(2, MAX, 7, 7);
    }

    /** "kind 3: value of a becomes value of a times value of b .. (ints wrap)" */
    private static void termsMultiplyWraps() {
        work(3, 46340, 46340, 2147395600);
        work(3, 46341, 46341, -2147479015);
        work(3, 65536, 32768, MIN);
        work(3, 65536, 65536, 0);
        work(3, MAX, 2, -2);
        work(3, MAX, MAX, 1);
        work(3, MIN, -1, MIN);
        work(3, -1, MIN, MIN);
        work(3, MIN, MIN, 0);
        work(3, MIN, MAX, MIN);
        work(3, MIN, 0, 0);
    }

    /** "kind 4: if the value of b is negative, the value of a becomes 0": 0 is not negative. */
    private static void termsClearIfNegative() {
        work(4, 7, -1, 0);
        work(4, 7, MIN, 0);
        work(4, 7, 0, 7);
        work(4, 7, 1, 7);
        work(4, 7, MAX, 7);
        work(4, MIN, -1, 0);
        work(4, MIN, 0, MIN);
        work(4, MAX, -1, 0);
        work(4, MAX, 0, MAX);
        work(4, -7, 0, -7);
    }

    /** "a and b of WITH (they may be the same)" */
    private static void termsTheSameComponentTwice() {
        int[] values = {MIN, -1, 0, 1, MAX};
        int[][] due = {
            {0, -2, 0, 2, -2},
            {0, 0, 0, 0, 0},
            {MIN, -1, 0, 1, MAX},
            {0, 1, 0, 1, 1},
            {0, 0, 0, 1, MAX}};
        for (int kind = 0; kind < 5; kind++) {
            for (int i = 0; i < values.length; i++) {
                ArchetypeWorld w = new ArchetypeWorld();
                w.spawn(32, values[i]);
                w.system(32, Check.work(kind, 5, 5));
                Check.due("Terms: frame", w.frame(1), 1);
                Check.due("Terms: kind " + kind + " of " + values[i] + " twice", w.get(0, 5), due[kind][i]);
            }
        }
    }

    /** "it goes over all entities that fit (WITHOUT taken as it is)" */
    private static void termsWithoutTakenAsItIs() {
        ArchetypeWorld w = new ArchetypeWorld();
        Check.fill(w, 63, 3);
        w.system(Check.sets(33, 32), Check.work(0, 0, 5));
        w.system(Check.sets(1, 1), Check.work(0, 0, 0));
        w.system(4095, Check.work(0, 0, 0));
        Check.due("Terms: a component of both sets", w.frame(10), 0);
        Check.due("Terms: nothing changed", w.sum(0, 0, 0), 72);
        w.drop(23, 5);
        Check.due("Terms: nor without it", w.frame(10), 0);
    }

    /** "goes over all entities that fit, in the order of their numbers": the first and the last too. */
    private static void termsFirstAndLastEntity() {
        ArchetypeWorld w = new ArchetypeWorld();
        Check.fill(w, 1, 3);
        w.put(0, 5, 4);
        w.put(23, 5, 5);
        w.system(33, Check.work(2, 0, 5));
        Check.due("Terms: two fit", w.frame(1), 2);
        Check.due("Terms: the first", w.get(0, 0), 4);
        Check.due("Terms: the last", w.get(23, 0), 5);
        Check.due("Terms: all the others", w.sum(0, 32, 0), 66);
    }

    /** "A FRAME runs the systems stage by stage, 0 first": eight stages, of which no two may change places. */
    private static void termsStageByStage() {
        ArchetypeWorld w = new ArchetypeWorld();
        w.spawn(3, 0);
        w.put(0, 0, 2);
        w.put(0, 1, 3);
        int value = 2;
        for (int s = 0; s < 8; s++) {
            w.system(3, Check.work(s % 2 == 0 ? 0 : 3, 0, 1));
            value = s % 2 == 0 ? value + 3 : value * 3;
        }
        Check.due("Terms: eight stages", w.stages(), 8);
        Check.due("Terms: one frame", w.frame(1), 8);
        Check.due("Terms: each behind the one before", w.get(0, 0), value);
    }

    /** A world of two entities in which component 0 counts the frames. */
    private static ArchetypeWorld counting() {
        ArchetypeWorld w = new ArchetypeWorld();
        w.spawn(3, 1);
        w.spawn(3, 1);
        w.put(0, 0, 0);
        w.put(1, 0, 0);
        w.system(3, Check.work(0, 0, 1));
        return w;
    }

    private static void frames(int n, int done) {
        ArchetypeWorld w = counting();
        Check.due("17: frame(" + n + ")", w.frame(n), 2 * done);
        Check.due("17: frames done to the first", w.get(0, 0), done);
        Check.due("17: frames done to the second", w.get(1, 0), done);
    }

    /** "Does n frames (none if n < 1 ..)" */
    private static void promise17NoneIfLessThanOne() {
        frames(MIN, 0);
        frames(MIN + 1, 0);
        frames(-10, 0);
        frames(-1, 0);
        frames(0, 0);
        frames(1, 1);
        frames(2, 2);
    }

    /** "Does n frames (.. at most 10)" */
    private static void promise17AtMostTen() {
        frames(9, 9);
        frames(10, 10);
        frames(11, 10);
        frames(12, 10);
        frames(1 << 30, 10);
        frames(MAX - 1, 10);
        frames(MAX, 10);
    }

    /** "at most 10": that is for one call; the next one does its own. */
    private static void promise17TwentyFramesInTwoCalls() {
        ArchetypeWorld w = counting();
        Check.due("17: ten frames", w.frame(11), 20);
        Check.due("17: ten more", w.frame(10), 20);
        Check.due("17: one more", w.frame(1), 2);
        Check.due("17: none more", w.frame(0), 0);
        Check.due("17: all of them", w.get(1, 0), 21);
    }

    /** "how often an entity was worked on by a system": without systems. */
    private static void promise17NoSystem() {
        ArchetypeWorld w = new ArchetypeWorld();
        Check.due("17: nothing at all", w.frame(10), 0);
        Check.fill(w, 63, 3);
        Check.due("17: no system", w.frame(10), 0);
        w.system(1, Check.work(0, 0, 0));
        w.unsystem();
        Check.due("17: no system any more", w.frame(10), 0);
        w.system(1, Check.work(0, 1, 0));
        Check.due("17: a refused system", w.frame(10), 0);
        Check.due("17: nothing changed", w.sum(0, 0, 0), 72);
    }

    /** "how often an entity was worked on by a system": without entities. */
    private static void promise17NoEntity() {
        ArchetypeWorld w = new ArchetypeWorld();
        for (int s = 0; s < 8; s++) {
            w.system(1, Check.work(0, 0, 0));
        }
        Check.due("17: none ever lived", w.frame(10), 0);
        Check.fill(w, 1, 1);
        for (int e = 0; e < 24; e++) {
            w.kill(e);
        }
        Check.due("17: none lives any more", w.frame(10), 0);
        w.spawn(1, 1);
        Check.due("17: the dead were not worked on", w.get(0, 0), 1);
    }

    /** "how often an entity was worked on by a system": with systems and entities, of which none fits. */
    private static void promise17NothingFits() {
        ArchetypeWorld w = new ArchetypeWorld();
        Check.fill(w, 31, 3);
        w.system(33, Check.work(0, 0, 5));
        w.system(Check.sets(1, 16), Check.work(0, 0, 0));
        Check.due("17: none fits", w.frame(10), 0);
        Check.due("17: nothing changed", w.sum(0, 0, 0), 72);
        Check.due("17: no part appeared", w.count(0, 32), 24);
    }

    /** "how often an entity was worked on by a system": 24 entities, 8 systems, 10 frames. */
    private static void promise17AllEntitiesAndSystems() {
        ArchetypeWorld w = new ArchetypeWorld();
        Check.fill(w, 63, 1);
        for (int s = 0; s < 8; s++) {
            w.system(63, Check.work(0, s % 6, s % 6));
        }
        Check.due("17: one frame", w.frame(1), 192);
        Check.due("17: ten frames", w.frame(10), 1920);
        Check.due("17: doubled 22 times", w.get(23, 0), 1 << 22);
        Check.due("17: doubled 11 times", w.get(23, 5), 1 << 11);
        w.frame(10);
        Check.due("17: doubled 42 times, past the last bit", w.get(23, 0), 0);
        Check.due("17: doubled 21 times", w.get(23, 5), 1 << 21);
    }

    /** "every entity that a system goes over counts once for each system and frame, also where no value changes" */
    private static void promise19CountsWhereNoValueChanges() {
        for (int kind = 0; kind < 5; kind++) {
            ArchetypeWorld w = new ArchetypeWorld();
            Check.fill(w, 63, 0);
            for (int s = 0; s < 8; s++) {
                w.system(63, Check.work(kind, 0, 1));
            }
            Check.due("19: kind " + kind + " over zeros, one frame", w.frame(1), 192);
            Check.due("19: kind " + kind + " over zeros, ten frames", w.frame(10), 1920);
            Check.due("19: no value changed", w.digest(), 0);
        }
    }
}
