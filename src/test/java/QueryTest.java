/** Promises 9 to 12 and 18 for ordinary arguments: count, next, sum, kinds and digest. */
public final class QueryTest {
    private static final int NONE = ArchetypeWorld.NONE;

    public static void main(String[] args) {
        promise9();
        promise9EachSet();
        promise10();
        promise11();
        promise12();
        promise18();
        promise18EachPlace();
        Check.end();
    }

    /** Entities 0 to 5 with the sets 3, 7, 1, 0, 63, 4; entity 6 is dead. */
    private static ArchetypeWorld mixed() {
        ArchetypeWorld w = new ArchetypeWorld();
        int[] sets = {3, 7, 1, 0, 63, 4, 63};
        for (int e = 0; e < sets.length; e++) {
            w.spawn(sets[e], 10 + e);
        }
        w.kill(6);
        return w;
    }

    private static void promise9() {
        ArchetypeWorld w = mixed();
        Check.due("9: all living", w.count(0, 0), 6);
        Check.due("9: all of two", w.count(3, 0), 3);
        Check.due("9: one with", w.count(1, 0), 4);
        Check.due("9: none of two", w.count(0, 6), 2);
        Check.due("9: with and without", w.count(1, 4), 2);
        Check.due("9: without all", w.count(0, 63), 1);
        Check.due("9: with all", w.count(63, 0), 1);
        Check.due("9: the same on both sides", w.count(1, 1), 0);
        ArchetypeWorld full = new ArchetypeWorld();
        Check.fill(full, 5, 0);
        Check.due("9: all 24", full.count(5, 58), 24);
    }

    private static void promise9EachSet() {
        for (int set = 0; set < 64; set++) {
            ArchetypeWorld w = new ArchetypeWorld();
            w.spawn(set, 1);
            for (int other = 0; other < 64; other++) {
                boolean has = true;
                boolean lacks = true;
                for (int c = 0; c < 6; c++) {
                    boolean asked = (other >> c) % 2 == 1;
                    boolean there = (set >> c) % 2 == 1;
                    has = has && (!asked || there);
                    lacks = lacks && !(asked && there);
                }
                Check.due("9: with " + other + " of " + set, w.count(other, 0), has ? 1 : 0);
                Check.due("9: without " + other + " of " + set, w.count(0, other), lacks ? 1 : 0);
            }
        }
    }

    private static void promise10() {
        ArchetypeWorld w = mixed();
        Check.due("10: from 0", w.next(4, 0, 0), 1);
        Check.due("10: from itself", w.next(4, 0, 1), 1);
        Check.due("10: behind it", w.next(4, 0, 2), 4);
        Check.due("10: the last", w.next(4, 0, 5), 5);
        Check.due("10: dead ones do not fit", w.next(4, 0, 6), NONE);
        Check.due("10: without", w.next(0, 1, 0), 3);
        Check.due("10: with and without", w.next(4, 1, 0), 5);
        Check.due("10: nothing asked", w.next(0, 0, 0), 0);
        Check.due("10: the same on both sides", w.next(1, 1, 0), NONE);
        ArchetypeWorld full = new ArchetypeWorld();
        Check.fill(full, 5, 0);
        Check.due("10: from 23", full.next(5, 2, 23), 23);
        Check.due("10: from 24 of a full world", full.next(5, 2, 24), NONE);
    }

    private static void promise11() {
        ArchetypeWorld w = mixed();
        Check.due("11: all that have 0", w.sum(0, 0, 0), 10 + 11 + 12 + 14);
        Check.due("11: all that have 2", w.sum(0, 0, 2), 11 + 14 + 15);
        Check.due("11: all that have 5", w.sum(0, 0, 5), 14);
        Check.due("11: with 1", w.sum(2, 0, 0), 10 + 11 + 14);
        Check.due("11: without 2", w.sum(0, 4, 0), 10 + 12);
        Check.due("11: with and without", w.sum(1, 8, 1), 10 + 11);
        Check.due("11: that itself is ruled out", w.sum(0, 1, 0), 0);
        w.drop(4, 0);
        Check.due("11: a dropped part is not added", w.sum(0, 0, 0), 10 + 11 + 12);
        w.put(3, 0, -100);
        Check.due("11: a new part is added", w.sum(0, 0, 0), 10 + 11 + 12 - 100);
        ArchetypeWorld full = new ArchetypeWorld();
        Check.fill(full, 32, 3);
        Check.due("11: all 24", full.sum(32, 31, 5), 72);
    }

    private static void promise12() {
        ArchetypeWorld w = mixed();
        Check.due("12: six sets", w.kinds(), 6);
        w.spawn(63, 0);
        Check.due("12: the same set again", w.kinds(), 6);
        w.kill(4);
        Check.due("12: one of two gone", w.kinds(), 6);
        w.kill(6);
        Check.due("12: both gone", w.kinds(), 5);
        w.kill(3);
        Check.due("12: the empty set was one", w.kinds(), 4);
        w.drop(1, 2);
        Check.due("12: 7 became 3", w.kinds(), 3);
        w.put(5, 0, 1);
        Check.due("12: 4 became 5", w.kinds(), 3);
        w.put(2, 0, 99);
        Check.due("12: values do not count", w.kinds(), 3);
        ArchetypeWorld full = new ArchetypeWorld();
        for (int e = 0; e < 24; e++) {
            full.spawn(63 - e, 0);
        }
        Check.due("12: 24 sets", full.kinds(), 24);
    }

    private static void promise18() {
        ArchetypeWorld w = mixed();
        int due = 10 * (1 + 2)
            + 11 * (7 + 8 + 9)
            + 12 * 13
            + 14 * (25 + 26 + 27 + 28 + 29 + 30)
            + 15 * 33;
        Check.due("18: digest", w.digest(), due);
        w.drop(0, 1);
        Check.due("18: a dropped part is not added", w.digest(), due - 20);
        w.kill(0);
        Check.due("18: a dead one is not added", w.digest(), due - 30);
        ArchetypeWorld high = new ArchetypeWorld();
        Check.fill(high, 32, Edges.MAX);
        // Every factor 6 e + 6 is even, and an even k times the greatest int wraps to -k.
        int wrapped = 0;
        for (int e = 0; e < 24; e++) {
            wrapped -= 6 * e + 6;
        }
        Check.due("18: wraps", high.digest(), wrapped);
    }

    private static void promise18EachPlace() {
        ArchetypeWorld w = new ArchetypeWorld();
        Check.fill(w, 0, 0);
        for (int e = 0; e < 24; e++) {
            for (int c = 0; c < 6; c++) {
                w.put(e, c, -3);
                Check.due("18: place " + e + ", " + c, w.digest(), -3 * (6 * e + c + 1));
                w.drop(e, c);
            }
        }
    }
}
