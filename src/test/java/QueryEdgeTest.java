/** Promises 9 to 12, 18 and what 19 says of next, at their edges; above each test the document's sentence. */
public final class QueryEdgeTest {
    private static final int BAD_ARG = ArchetypeWorld.BAD_ARG;
    private static final int NONE = ArchetypeWorld.NONE;
    private static final int MIN = Edges.MIN;
    private static final int MAX = Edges.MAX;

    public static void main(String[] args) {
        termsFitsWithEmptySets();
        termsFitsWithWholeSets();
        termsFitsWithASharedComponent();
        promise9NoneAndAll();
        promise9SetOutOfRange();
        promise10FromOutOfRange();
        promise10FromOrGreater();
        promise10ThereIsNone();
        promise10SetOutOfRange();
        promise11NoneAndAll();
        promise11OnlyThoseThatHaveIt();
        promise11Wraps();
        promise11SetOutOfRange();
        promise11ComponentOutOfRange();
        promise12NoneOneAndAll();
        promise12TheEmptySetIsOne();
        promise18WithoutEntitiesOrParts();
        promise18FirstAndLastPlace();
        promise18Wraps();
        promise19BadArgBeforeNone();
        Check.end();
    }

    private static ArchetypeWorld full(int set, int value) {
        ArchetypeWorld w = new ArchetypeWorld();
        Check.fill(w, set, value);
        return w;
    }

    /** "has all components of with and none of without": nothing asked, so that living is enough. */
    private static void termsFitsWithEmptySets() {
        ArchetypeWorld w = new ArchetypeWorld();
        w.spawn(0, 1);
        w.spawn(63, 1);
        w.spawn(63, 1);
        w.kill(2);
        Check.due("Terms: count(0, 0)", w.count(0, 0), 2);
        Check.due("Terms: next(0, 0, 0)", w.next(0, 0, 0), 0);
        Check.due("Terms: next(0, 0, 1)", w.next(0, 0, 1), 1);
        Check.due("Terms: the dead one does not fit", w.next(0, 0, 2), NONE);
    }

    /** "has all components of with and none of without": all six on one side. */
    private static void termsFitsWithWholeSets() {
        ArchetypeWorld w = new ArchetypeWorld();
        w.spawn(31, 1);
        w.spawn(62, 1);
        w.spawn(63, 1);
        w.spawn(32, 1);
        w.spawn(1, 1);
        w.spawn(0, 1);
        Check.due("Terms: count(63, 0)", w.count(63, 0), 1);
        Check.due("Terms: next(63, 0, 0)", w.next(63, 0, 0), 2);
        Check.due("Terms: count(0, 63)", w.count(0, 63), 1);
        Check.due("Terms: next(0, 63, 0)", w.next(0, 63, 0), 5);
    }

    /** A component of both sets: nothing both has it and has it not. */
    private static void termsFitsWithASharedComponent() {
        ArchetypeWorld w = full(63, 1);
        w.kill(0);
        w.spawn(0, 1);
        for (int c = 0; c < 6; c++) {
            Check.due("Terms: count of both", w.count(1 << c, 1 << c), 0);
            Check.due("Terms: next of both", w.next(63, 1 << c, 0), NONE);
            Check.due("Terms: sum of both", w.sum(1 << c, 63, c), 0);
        }
    }

    /** "How many entities fit": none living, none fitting, all 24. */
    private static void promise9NoneAndAll() {
        ArchetypeWorld none = new ArchetypeWorld();
        Check.due("9: none lives", none.count(0, 0), 0);
        Check.due("9: none lives, whole sets", none.count(63, 63), 0);
        ArchetypeWorld w = full(33, 0);
        Check.due("9: none fits", w.count(2, 0), 0);
        Check.due("9: all 24 fit", w.count(33, 30), 24);
        w.put(23, 1, 0);
        Check.due("9: the last one alone", w.count(2, 0), 1);
        w.drop(0, 0);
        Check.due("9: the first one alone", w.count(0, 1), 1);
    }

    /** "BAD_ARG if with or without is not 0 to 63" */
    private static void promise9SetOutOfRange() {
        ArchetypeWorld[] worlds = {new ArchetypeWorld(), full(63, 1)};
        for (ArchetypeWorld w : worlds) {
            for (int set : Edges.NOT_SETS) {
                Check.due("9: count(" + set + ", 0)", w.count(set, 0), BAD_ARG);
                Check.due("9: count(0, " + set + ")", w.count(0, set), BAD_ARG);
                Check.due("9: count(63, " + set + ")", w.count(63, set), BAD_ARG);
                Check.due("9: both " + set, w.count(set, set), BAD_ARG);
            }
        }
    }

    /** "The least number, from or greater": from may be any int. */
    private static void promise10FromOutOfRange() {
        ArchetypeWorld w = full(1, 1);
        int[] below = {MIN, MIN + 1, -24, -1, 0};
        for (int from : below) {
            Check.due("10: next from " + from, w.next(1, 0, from), 0);
        }
        int[] above = {24, 25, 32, 1 << 30, MAX - 1, MAX};
        for (int from : above) {
            Check.due("10: next from " + from, w.next(1, 0, from), NONE);
        }
    }

    /** "The least number, from or greater": from itself counts, one less does not. */
    private static void promise10FromOrGreater() {
        ArchetypeWorld w = full(1, 1);
        for (int from = 0; from < 24; from++) {
            Check.due("10: from itself", w.next(1, 0, from), from);
        }
        w.put(0, 5, 1);
        w.put(23, 5, 1);
        Check.due("10: the first", w.next(32, 0, 0), 0);
        Check.due("10: behind the first", w.next(32, 0, 1), 23);
        Check.due("10: the last", w.next(32, 0, 23), 23);
        Check.due("10: behind the last", w.next(32, 0, 24), NONE);
    }

    /** "NONE if there is none" */
    private static void promise10ThereIsNone() {
        ArchetypeWorld none = new ArchetypeWorld();
        Check.due("10: none lives", none.next(0, 0, 0), NONE);
        ArchetypeWorld w = full(31, 1);
        Check.due("10: none has it", w.next(32, 0, 0), NONE);
        Check.due("10: all have it", w.next(0, 16, 0), NONE);
        w.kill(23);
        Check.due("10: the last is dead", w.next(0, 0, 23), NONE);
    }

    /** "BAD_ARG if with or without is not 0 to 63" */
    private static void promise10SetOutOfRange() {
        ArchetypeWorld w = full(63, 1);
        for (int set : Edges.NOT_SETS) {
            Check.due("10: next(" + set + ", 0, 0)", w.next(set, 0, 0), BAD_ARG);
            Check.due("10: next(0, " + set + ", 0)", w.next(0, set, 0), BAD_ARG);
            Check.due("10: both " + set, w.next(set, set, 23), BAD_ARG);
        }
        Check.due("10: the greatest with", w.next(63, 0, 0), 0);
        Check.due("10: the greatest without", w.next(0, 63, 0), NONE);
    }

    /** "The sum .. over the entities that fit": none living, none fitting, all 24. */
    private static void promise11NoneAndAll() {
        Check.due("11: none lives", new ArchetypeWorld().sum(0, 0, 0), 0);
        ArchetypeWorld w = full(33, 5);
        Check.due("11: none fits", w.sum(2, 0, 0), 0);
        Check.due("11: all 24, the first component", w.sum(33, 30, 0), 120);
        Check.due("11: all 24, the last component", w.sum(33, 30, 5), 120);
        w.put(0, 0, 6);
        w.put(23, 0, 8);
        Check.due("11: the first and the last entity too", w.sum(0, 0, 0), 124);
    }

    /** "and have c": those that fit without having c add nothing. */
    private static void promise11OnlyThoseThatHaveIt() {
        ArchetypeWorld w = full(3, 5);
        Check.due("11: none has it", w.sum(1, 0, 5), 0);
        w.drop(23, 1);
        Check.due("11: one dropped it", w.sum(1, 0, 1), 115);
        w.kill(0);
        Check.due("11: one is dead", w.sum(1, 0, 1), 110);
        Check.due("11: without c asked for c", w.sum(0, 2, 1), 0);
    }

    /** "The sum, wrapping" */
    private static void promise11Wraps() {
        ArchetypeWorld w = new ArchetypeWorld();
        w.spawn(1, MAX);
        Check.due("11: the greatest int", w.sum(0, 0, 0), MAX);
        w.spawn(1, 1);
        Check.due("11: one above it", w.sum(0, 0, 0), MIN);
        w.spawn(1, -1);
        Check.due("11: and back", w.sum(0, 0, 0), MAX);
        w.put(0, 0, MIN);
        Check.due("11: the least int", w.sum(0, 0, 0), MIN);
        w.kill(1);
        Check.due("11: one below it", w.sum(0, 0, 0), MAX);
        Check.due("11: 24 times the greatest int", full(32, MAX).sum(0, 0, 5), -24);
        Check.due("11: 24 times the least int", full(32, MIN).sum(0, 0, 5), 0);
    }

    /** "0 if with or without is not 0 to 63" */
    private static void promise11SetOutOfRange() {
        ArchetypeWorld whole = full(63, 5);
        ArchetypeWorld first = full(1, 5);
        for (int set : Edges.NOT_SETS) {
            Check.due("11: sum(" + set + ", 0, 0)", whole.sum(set, 0, 0), 0);
            // Nothing here has the components 1 to 5, so that a wrong without would rule out little.
            Check.due("11: sum(0, " + set + ", 0)", first.sum(0, set, 0), 0);
            Check.due("11: sum(1, " + set + ", 0)", first.sum(1, set, 0), 0);
            Check.due("11: all three wrong", whole.sum(set, set, 6), 0);
        }
        Check.due("11: the greatest with", whole.sum(63, 0, 0), 120);
        Check.due("11: the greatest without that fits", first.sum(0, 62, 0), 120);
    }

    /** "0 if .. c not 0 to 5" */
    private static void promise11ComponentOutOfRange() {
        ArchetypeWorld w = full(63, 5);
        for (int c : Edges.NOT_COMPONENTS) {
            Check.due("11: sum(0, 0, " + c + ")", w.sum(0, 0, c), 0);
        }
        Check.due("11: the first component", w.sum(0, 0, 0), 120);
        Check.due("11: the last component", w.sum(0, 0, 5), 120);
    }

    /** "How many different sets of components": none, one for all 24, 24. */
    private static void promise12NoneOneAndAll() {
        Check.due("12: none lives", new ArchetypeWorld().kinds(), 0);
        ArchetypeWorld w = full(63, 5);
        Check.due("12: all the same", w.kinds(), 1);
        w.drop(23, 5);
        Check.due("12: the last differs", w.kinds(), 2);
        w.drop(0, 5);
        Check.due("12: the first is as the last", w.kinds(), 2);
        ArchetypeWorld different = new ArchetypeWorld();
        for (int e = 0; e < 24; e++) {
            different.spawn(40 + e, 0);
        }
        Check.due("12: all different", different.kinds(), 24);
        for (int e = 0; e < 24; e++) {
            different.kill(e);
        }
        Check.due("12: none lives any more", different.kinds(), 0);
    }

    /** "different sets .. the living entities have": the empty set is a set too. */
    private static void promise12TheEmptySetIsOne() {
        ArchetypeWorld w = new ArchetypeWorld();
        w.spawn(0, 1);
        Check.due("12: the empty set alone", w.kinds(), 1);
        w.spawn(0, 2);
        Check.due("12: the empty set twice", w.kinds(), 1);
        w.spawn(32, 1);
        Check.due("12: and another", w.kinds(), 2);
        w.drop(2, 5);
        Check.due("12: that became empty", w.kinds(), 1);
    }

    /** "over all living entities e and their components c": none of either. */
    private static void promise18WithoutEntitiesOrParts() {
        ArchetypeWorld w = new ArchetypeWorld();
        Check.due("18: none lives", w.digest(), 0);
        Check.fill(w, 0, 9);
        Check.due("18: none has parts", w.digest(), 0);
        w.put(23, 5, 9);
        w.drop(23, 5);
        Check.due("18: a part no longer had", w.digest(), 0);
        w.put(23, 5, 9);
        w.kill(23);
        Check.due("18: of an entity no longer living", w.digest(), 0);
    }

    /** "(6 e + c + 1) times the value": the least and the greatest factor. */
    private static void promise18FirstAndLastPlace() {
        ArchetypeWorld w = full(0, 0);
        w.put(0, 0, 1000);
        Check.due("18: 1 times", w.digest(), 1000);
        w.put(23, 5, 1);
        Check.due("18: 144 times", w.digest(), 1144);
        w.put(0, 5, 100000);
        w.put(1, 0, -100000);
        Check.due("18: 6 times and 7 times", w.digest(), 1144 - 100000);
    }

    /** "The sum, wrapping": a product that wraps, and a sum that does. */
    private static void promise18Wraps() {
        ArchetypeWorld w = full(0, 0);
        w.put(0, 0, MAX);
        Check.due("18: once the greatest int", w.digest(), MAX);
        w.put(0, 0, MIN);
        Check.due("18: once the least int", w.digest(), MIN);
        w.drop(0, 0);
        w.put(0, 1, MAX);
        Check.due("18: twice the greatest int", w.digest(), -2);
        w.put(0, 1, MIN);
        Check.due("18: twice the least int", w.digest(), 0);
        w.drop(0, 1);
        w.put(23, 5, MAX);
        Check.due("18: 144 times the greatest int", w.digest(), -144);
        w.put(0, 0, MIN);
        Check.due("18: the sum of both", w.digest(), MAX - 143);
    }

    /** "next: BAD_ARG is tested before NONE." */
    private static void promise19BadArgBeforeNone() {
        ArchetypeWorld none = new ArchetypeWorld();
        ArchetypeWorld w = full(63, 1);
        for (int set : Edges.NOT_SETS) {
            Check.due("19: with, none lives", none.next(set, 0, 0), BAD_ARG);
            Check.due("19: without, none lives", none.next(0, set, 0), BAD_ARG);
            Check.due("19: with, from 24", w.next(set, 0, 24), BAD_ARG);
            Check.due("19: without, from the greatest int", w.next(0, set, MAX), BAD_ARG);
            Check.due("19: with, nothing lacks the parts", w.next(set, 63, 0), BAD_ARG);
        }
    }
}
