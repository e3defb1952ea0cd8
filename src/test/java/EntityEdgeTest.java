/** Promises 1 to 8 at their edges; above each test the document's sentence that it is for. */
public final class EntityEdgeTest {
    private static final int BAD_ARG = ArchetypeWorld.BAD_ARG;
    private static final int FULL = ArchetypeWorld.FULL;
    private static final int NONE = ArchetypeWorld.NONE;
    private static final int MIN = Edges.MIN;
    private static final int MAX = Edges.MAX;

    public static void main(String[] args) {
        upToThe512thCall();
        termsAValueIsAnInt();
        promise1NoEntityLives();
        promise1NoSystem();
        promise2LeastNumberOfNone();
        promise2LeastNumberIsTheLastOne();
        promise2LeastNumberAmongTheDead();
        promise2EmptyAndWholeSet();
        promise2SetOutOfRange();
        promise2AllLive();
        promise2BadArgBeforeFull();
        promise3FirstAndLastEntity();
        promise3NumberOutOfRange();
        promise3NeverLivedOrDead();
        promise3EmptyAndWholeSet();
        promise4FirstAndLastComponent();
        promise4DoesNotLive();
        promise4ComponentOutOfRange();
        promise4NoneBeforeBadArg();
        promise4HadItBefore();
        promise5FirstAndLastComponent();
        promise5DoesNotLive();
        promise5ComponentOutOfRange();
        promise5NoneBeforeBadArg();
        promise5HadItOrNot();
        promise5TheLastPart();
        promise6DoesNotLive();
        promise6HasNoSuchComponent();
        promise7DoesNotLive();
        promise7WithoutParts();
        promise8NoneAndAll();
        Check.end();
    }

    /** A full world in which each value tells whose it is: 100 e + c. */
    private static ArchetypeWorld numbered() {
        ArchetypeWorld w = new ArchetypeWorld();
        Check.fill(w, 63, 0);
        for (int e = 0; e < 24; e++) {
            for (int c = 0; c < 6; c++) {
                w.put(e, c, 100 * e + c);
            }
        }
        return w;
    }

    /** Every part and value of a numbered world is as it was made. */
    private static void numberedIsUntouched(String after, ArchetypeWorld w) {
        Check.due(after + ": living", w.living(), 24);
        Check.due(after + ": whole ones", w.count(63, 0), 24);
        for (int e = 0; e < 24; e++) {
            for (int c = 0; c < 6; c++) {
                Check.due(after + ": get(" + e + ", " + c + ")", w.get(e, c), 100 * e + c);
            }
        }
    }

    /** "An object is used for at most 512 calls": the last of them is answered like the first. */
    private static void upToThe512thCall() {
        ArchetypeWorld entities = new ArchetypeWorld();
        ArchetypeWorld systems = new ArchetypeWorld();
        for (int call = 1; call <= 512; call += 2) {
            Check.due("call " + call + ": spawn", entities.spawn(63, call), 0);
            Check.due("call " + call + ": system", systems.system(63, 0), 0);
            Check.due("call " + (call + 1) + ": kill", entities.kill(0), 63);
            Check.due("call " + (call + 1) + ": unsystem", systems.unsystem(), 0);
        }
    }

    /** "each with a value (an int)" */
    private static void termsAValueIsAnInt() {
        int[] values = {MIN, MIN + 1, -1, 0, 1, MAX - 1, MAX};
        for (int value : values) {
            ArchetypeWorld w = new ArchetypeWorld();
            Check.due("Terms: spawn(33, " + value + ")", w.spawn(33, value), 0);
            Check.due("Terms: first component", w.get(0, 0), value);
            Check.due("Terms: last component", w.get(0, 5), value);
            Check.due("Terms: put " + value, w.put(0, 3, value), 0);
            Check.due("Terms: value put", w.get(0, 3), value);
            Check.due("Terms: parts", w.parts(0), 41);
        }
    }

    /** "No entity lives" */
    private static void promise1NoEntityLives() {
        ArchetypeWorld w = new ArchetypeWorld();
        Check.due("1: living", w.living(), 0);
        Check.due("1: kinds", w.kinds(), 0);
        Check.due("1: count(0, 0)", w.count(0, 0), 0);
        Check.due("1: next from the least int", w.next(0, 0, MIN), NONE);
        Check.due("1: sum(0, 0, 0)", w.sum(0, 0, 0), 0);
        Check.due("1: digest", w.digest(), 0);
        int[] some = {MIN, -1, 0, 1, 22, 23, 24, MAX};
        for (int e : some) {
            Check.due("1: parts(" + e + ")", w.parts(e), NONE);
            Check.due("1: get(" + e + ", 0)", w.get(e, 0), 0);
            Check.due("1: put(" + e + ", 0, 1)", w.put(e, 0, 1), NONE);
            Check.due("1: drop(" + e + ", 0)", w.drop(e, 0), NONE);
            Check.due("1: kill(" + e + ")", w.kill(e), NONE);
        }
        Check.due("1: still none", w.living(), 0);
    }

    /** "there is no system" */
    private static void promise1NoSystem() {
        ArchetypeWorld w = new ArchetypeWorld();
        Check.due("1: stages", w.stages(), 0);
        int[] some = {MIN, -1, 0, 7, 8, MAX};
        for (int s : some) {
            Check.due("1: stage(" + s + ")", w.stage(s), NONE);
        }
        Check.due("1: unsystem", w.unsystem(), NONE);
        Check.due("1: the first system", w.system(1, 0), 0);
    }

    /** "The entity with the least number that does not live": of none living. */
    private static void promise2LeastNumberOfNone() {
        ArchetypeWorld w = new ArchetypeWorld();
        Check.due("2: the first", w.spawn(1, 1), 0);
        w.kill(0);
        Check.due("2: the first again", w.spawn(2, 2), 0);
        Check.due("2: the second", w.spawn(4, 4), 1);
        Check.due("2: parts of the first", w.parts(0), 2);
        Check.due("2: parts of the second", w.parts(1), 4);
    }

    /** "The entity with the least number that does not live": when it is the last one. */
    private static void promise2LeastNumberIsTheLastOne() {
        ArchetypeWorld w = new ArchetypeWorld();
        for (int e = 0; e < 23; e++) {
            w.spawn(1, 1);
        }
        Check.due("2: 23 live", w.living(), 23);
        Check.due("2: the last one", w.spawn(32, -5), 23);
        Check.due("2: its parts", w.parts(23), 32);
        Check.due("2: its value", w.get(23, 5), -5);
        Check.due("2: 24 live", w.living(), 24);
    }

    /** "The entity with the least number that does not live": each one alone, and the first and last at once. */
    private static void promise2LeastNumberAmongTheDead() {
        ArchetypeWorld w = new ArchetypeWorld();
        Check.fill(w, 63, 1);
        for (int e = 0; e < 24; e++) {
            w.kill(e);
            Check.due("2: the only dead one", w.spawn(9, e), e);
            Check.due("2: nothing is left of its parts", w.parts(e), 9);
        }
        w.kill(23);
        w.kill(0);
        Check.due("2: the lesser of two", w.spawn(1, 1), 0);
        Check.due("2: then the greater", w.spawn(1, 1), 23);
    }

    /** "with the components of set, all with this value": no component, and all of them. */
    private static void promise2EmptyAndWholeSet() {
        ArchetypeWorld w = new ArchetypeWorld();
        Check.due("2: spawn(0, 7)", w.spawn(0, 7), 0);
        Check.due("2: it lives", w.living(), 1);
        Check.due("2: without parts", w.parts(0), 0);
        Check.due("2: spawn(63, 7)", w.spawn(63, 7), 1);
        Check.due("2: with all parts", w.parts(1), 63);
        for (int c = 0; c < 6; c++) {
            Check.due("2: no value", w.get(0, c), 0);
            Check.due("2: this value", w.get(1, c), 7);
        }
    }

    /** "set not 0 to 63 answers BAD_ARG" */
    private static void promise2SetOutOfRange() {
        ArchetypeWorld w = new ArchetypeWorld();
        for (int set : Edges.NOT_SETS) {
            Check.due("2: spawn(" + set + ", 1)", w.spawn(set, 1), BAD_ARG);
            Check.due("2: none lives after it", w.living(), 0);
        }
        Check.due("2: the number was not used up", w.spawn(63, 1), 0);
    }

    /** "all 24 live answers FULL" */
    private static void promise2AllLive() {
        ArchetypeWorld w = numbered();
        Check.due("2: a 25th without parts", w.spawn(0, 9), FULL);
        Check.due("2: a 25th with all parts", w.spawn(63, 9), FULL);
        numberedIsUntouched("2: FULL", w);
        w.kill(11);
        Check.due("2: room again", w.spawn(5, 9), 11);
        Check.due("2: full again", w.spawn(5, 9), FULL);
    }

    /** "Tested in this order": BAD_ARG, then FULL. */
    private static void promise2BadArgBeforeFull() {
        ArchetypeWorld w = numbered();
        for (int set : Edges.NOT_SETS) {
            Check.due("2: BAD_ARG before FULL of " + set, w.spawn(set, 1), BAD_ARG);
        }
        numberedIsUntouched("2: BAD_ARG", w);
    }

    /** "ENTITIES are numbered 0 to 23": kill at both ends. */
    private static void promise3FirstAndLastEntity() {
        ArchetypeWorld w = numbered();
        w.drop(0, 0);
        w.drop(23, 5);
        Check.due("3: kill(0)", w.kill(0), 62);
        Check.due("3: kill(23)", w.kill(23), 31);
        Check.due("3: 0 is dead", w.parts(0), NONE);
        Check.due("3: 23 is dead", w.parts(23), NONE);
        Check.due("3: 1 lives", w.parts(1), 63);
        Check.due("3: 22 lives", w.parts(22), 63);
        Check.due("3: the other 22 live", w.living(), 22);
    }

    /** "NONE if it does not live": no entity has such a number. */
    private static void promise3NumberOutOfRange() {
        ArchetypeWorld w = numbered();
        for (int e : Edges.NOT_ENTITIES) {
            Check.due("3: kill(" + e + ")", w.kill(e), NONE);
        }
        numberedIsUntouched("3: NONE", w);
    }

    /** "NONE if it does not live": it never did, or no longer does. */
    private static void promise3NeverLivedOrDead() {
        ArchetypeWorld w = new ArchetypeWorld();
        Check.due("3: none ever lived", w.kill(0), NONE);
        w.spawn(5, 1);
        w.spawn(6, 2);
        Check.due("3: the one behind the last", w.kill(2), NONE);
        Check.due("3: the last number", w.kill(23), NONE);
        Check.due("3: kill(0)", w.kill(0), 5);
        Check.due("3: kill(0) again", w.kill(0), NONE);
        Check.due("3: the other lives", w.living(), 1);
        Check.due("3: with its parts", w.parts(1), 6);
    }

    /** "Otherwise the set of its components": the empty set is no refusal. */
    private static void promise3EmptyAndWholeSet() {
        ArchetypeWorld w = new ArchetypeWorld();
        w.spawn(0, 9);
        w.spawn(63, 9);
        Check.due("3: of no parts", w.kill(0), 0);
        Check.due("3: of all parts", w.kill(1), 63);
        Check.due("3: none lives", w.living(), 0);
    }

    /** "COMPONENTS 0 to 5": put at both ends, in the first and the last entity. */
    private static void promise4FirstAndLastComponent() {
        ArchetypeWorld w = new ArchetypeWorld();
        Check.fill(w, 0, 0);
        int[] ends = {0, 23};
        for (int e : ends) {
            Check.due("4: put the first component", w.put(e, 0, 11), 0);
            Check.due("4: put the last component", w.put(e, 5, 55), 0);
            Check.due("4: parts", w.parts(e), 33);
            Check.due("4: the first value", w.get(e, 0), 11);
            Check.due("4: the last value", w.get(e, 5), 55);
        }
        Check.due("4: no other entity has parts", w.count(0, 63), 22);
    }

    /** "e does not live answers NONE" */
    private static void promise4DoesNotLive() {
        ArchetypeWorld w = numbered();
        for (int e : Edges.NOT_ENTITIES) {
            Check.due("4: put(" + e + ", 0, 9)", w.put(e, 0, 9), NONE);
            Check.due("4: put(" + e + ", 5, 9)", w.put(e, 5, 9), NONE);
        }
        numberedIsUntouched("4: NONE", w);
        w.kill(23);
        Check.due("4: put into a dead one", w.put(23, 0, 9), NONE);
        Check.due("4: it stays dead", w.parts(23), NONE);
    }

    /** "c not 0 to 5 answers BAD_ARG" */
    private static void promise4ComponentOutOfRange() {
        ArchetypeWorld w = numbered();
        for (int c : Edges.NOT_COMPONENTS) {
            Check.due("4: put(0, " + c + ", 9)", w.put(0, c, 9), BAD_ARG);
            Check.due("4: put(23, " + c + ", 9)", w.put(23, c, 9), BAD_ARG);
        }
        numberedIsUntouched("4: BAD_ARG", w);
        ArchetypeWorld bare = new ArchetypeWorld();
        bare.spawn(0, 0);
        for (int c : Edges.NOT_COMPONENTS) {
            Check.due("4: put into a bare one", bare.put(0, c, 9), BAD_ARG);
        }
        Check.due("4: it stays bare", bare.parts(0), 0);
    }

    /** "Tested in this order": NONE, then BAD_ARG. */
    private static void promise4NoneBeforeBadArg() {
        ArchetypeWorld w = new ArchetypeWorld();
        w.spawn(63, 1);
        for (int c : Edges.NOT_COMPONENTS) {
            Check.due("4: NONE before BAD_ARG of " + c, w.put(1, c, 9), NONE);
            for (int e : Edges.NOT_ENTITIES) {
                Check.due("4: put(" + e + ", " + c + ", 9)", w.put(e, c, 9), NONE);
            }
        }
        Check.due("4: one lives", w.living(), 1);
        Check.due("4: all values as before", w.digest(), 1 + 2 + 3 + 4 + 5 + 6);
    }

    /** "1 if it had c before, else 0": also when the value is 0 or stays the same. */
    private static void promise4HadItBefore() {
        ArchetypeWorld w = new ArchetypeWorld();
        w.spawn(0, 0);
        Check.due("4: a first 0", w.put(0, 4, 0), 0);
        Check.due("4: the part is there", w.parts(0), 16);
        Check.due("4: a second 0", w.put(0, 4, 0), 1);
        Check.due("4: the least int", w.put(0, 4, MIN), 1);
        Check.due("4: the greatest int", w.put(0, 4, MAX), 1);
        Check.due("4: the last value counts", w.get(0, 4), MAX);
        w.drop(0, 4);
        Check.due("4: after drop", w.put(0, 4, 3), 0);
        w.kill(0);
        w.spawn(0, 0);
        Check.due("4: after kill and spawn", w.put(0, 4, 3), 0);
    }

    /** "COMPONENTS 0 to 5": drop at both ends, in the first and the last entity. */
    private static void promise5FirstAndLastComponent() {
        ArchetypeWorld w = numbered();
        Check.due("5: drop(0, 0)", w.drop(0, 0), 1);
        Check.due("5: drop(23, 5)", w.drop(23, 5), 1);
        Check.due("5: parts(0)", w.parts(0), 62);
        Check.due("5: parts(23)", w.parts(23), 31);
        Check.due("5: the dropped value", w.get(23, 5), 0);
        Check.due("5: its neighbour", w.get(23, 4), 2304);
        Check.due("5: the others are whole", w.count(63, 0), 22);
    }

    /** "e does not live answers NONE" */
    private static void promise5DoesNotLive() {
        ArchetypeWorld w = numbered();
        for (int e : Edges.NOT_ENTITIES) {
            Check.due("5: drop(" + e + ", 0)", w.drop(e, 0), NONE);
            Check.due("5: drop(" + e + ", 5)", w.drop(e, 5), NONE);
        }
        numberedIsUntouched("5: NONE", w);
        w.kill(23);
        Check.due("5: drop from a dead one", w.drop(23, 0), NONE);
    }

    /** "c not 0 to 5 answers BAD_ARG" */
    private static void promise5ComponentOutOfRange() {
        ArchetypeWorld w = numbered();
        for (int c : Edges.NOT_COMPONENTS) {
            Check.due("5: drop(0, " + c + ")", w.drop(0, c), BAD_ARG);
            Check.due("5: drop(23, " + c + ")", w.drop(23, c), BAD_ARG);
        }
        numberedIsUntouched("5: BAD_ARG", w);
    }

    /** "Tested in this order": NONE, then BAD_ARG. */
    private static void promise5NoneBeforeBadArg() {
        ArchetypeWorld w = new ArchetypeWorld();
        w.spawn(63, 1);
        for (int c : Edges.NOT_COMPONENTS) {
            Check.due("5: NONE before BAD_ARG of " + c, w.drop(1, c), NONE);
            for (int e : Edges.NOT_ENTITIES) {
                Check.due("5: drop(" + e + ", " + c + ")", w.drop(e, c), NONE);
            }
        }
        Check.due("5: all parts as before", w.parts(0), 63);
    }

    /** "1 if it had c, else 0": also when its value was 0. */
    private static void promise5HadItOrNot() {
        ArchetypeWorld w = new ArchetypeWorld();
        w.spawn(16, 0);
        Check.due("5: one it never had", w.drop(0, 3), 0);
        Check.due("5: no other goes", w.parts(0), 16);
        Check.due("5: one of value 0", w.drop(0, 4), 1);
        Check.due("5: the same again", w.drop(0, 4), 0);
    }

    /** "Entity e no longer has component c": without its last part it still lives. */
    private static void promise5TheLastPart() {
        ArchetypeWorld w = new ArchetypeWorld();
        w.spawn(32, 8);
        Check.due("5: the last part", w.drop(0, 5), 1);
        Check.due("5: no parts", w.parts(0), 0);
        Check.due("5: it lives", w.living(), 1);
        Check.due("5: its number is taken", w.spawn(1, 1), 1);
    }

    /** "0 if e does not live" */
    private static void promise6DoesNotLive() {
        ArchetypeWorld w = numbered();
        for (int e : Edges.NOT_ENTITIES) {
            for (int c = 0; c < 6; c++) {
                Check.due("6: get(" + e + ", " + c + ")", w.get(e, c), 0);
            }
            Check.due("6: get(" + e + ", 6)", w.get(e, 6), 0);
        }
        Check.due("6: the first value of the last entity", w.get(23, 0), 2300);
        Check.due("6: the last value of the last entity", w.get(23, 5), 2305);
        w.kill(23);
        Check.due("6: of the dead, first", w.get(23, 0), 0);
        Check.due("6: of the dead, last", w.get(23, 5), 0);
    }

    /** "0 if e .. has no such component": dropped, never had, or none of that number. */
    private static void promise6HasNoSuchComponent() {
        ArchetypeWorld w = numbered();
        for (int c : Edges.NOT_COMPONENTS) {
            Check.due("6: get(1, " + c + ")", w.get(1, c), 0);
            Check.due("6: get(23, " + c + ")", w.get(23, c), 0);
        }
        w.drop(1, 5);
        Check.due("6: a dropped one", w.get(1, 5), 0);
        w.kill(2);
        w.spawn(31, 4);
        Check.due("6: one that only the dead had", w.get(2, 5), 0);
        Check.due("6: one that it has", w.get(2, 4), 4);
    }

    /** "NONE if it does not live" */
    private static void promise7DoesNotLive() {
        ArchetypeWorld w = numbered();
        for (int e : Edges.NOT_ENTITIES) {
            Check.due("7: parts(" + e + ")", w.parts(e), NONE);
        }
        Check.due("7: parts(0)", w.parts(0), 63);
        Check.due("7: parts(23)", w.parts(23), 63);
        w.kill(0);
        w.kill(23);
        Check.due("7: parts(0) of the dead", w.parts(0), NONE);
        Check.due("7: parts(23) of the dead", w.parts(23), NONE);
        Check.due("7: parts(0) of none", new ArchetypeWorld().parts(0), NONE);
    }

    /** "The set of the components of entity e": the empty set is not NONE. */
    private static void promise7WithoutParts() {
        ArchetypeWorld w = new ArchetypeWorld();
        w.spawn(0, 5);
        Check.due("7: spawned without", w.parts(0), 0);
        w.spawn(1, 5);
        w.drop(1, 0);
        Check.due("7: dropped all", w.parts(1), 0);
    }

    /** "The number of living entities": none, all 24, and no more than that. */
    private static void promise8NoneAndAll() {
        ArchetypeWorld w = new ArchetypeWorld();
        Check.due("8: none", w.living(), 0);
        w.kill(0);
        Check.due("8: none after a refused kill", w.living(), 0);
        for (int e = 0; e < 24; e++) {
            w.spawn(0, 0);
            Check.due("8: one more", w.living(), e + 1);
        }
        w.spawn(0, 0);
        Check.due("8: 24 after FULL", w.living(), 24);
        w.kill(23);
        Check.due("8: 23", w.living(), 23);
        for (int e = 0; e < 23; e++) {
            w.kill(e);
        }
        Check.due("8: none again", w.living(), 0);
    }
}
