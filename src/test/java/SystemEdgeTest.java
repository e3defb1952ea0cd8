/** Promises 13 to 16 at their edges; above each test the document's sentence that it is for. */
public final class SystemEdgeTest {
    private static final int BAD_ARG = ArchetypeWorld.BAD_ARG;
    private static final int FULL = ArchetypeWorld.FULL;
    private static final int NONE = ArchetypeWorld.NONE;
    private static final int MIN = Edges.MIN;
    private static final int MAX = Edges.MAX;
    private static final int[] NEGATIVE_WORK = {-1, -8, -64, -384, MIN + Check.work(4, 5, 5), MIN + 64, MIN + 1, MIN};
    private static final int[] NOT_B = {6, 7, 8, 32, 37, 64, 1 << 24};

    public static void main(String[] args) {
        termsAAndBMayBeTheSame();
        termsASharedComponentIsNoFault();
        termsNothingSharedIsWritten();
        termsOneSharedComponentIsWritten();
        promise13SetsInRange();
        promise13SetsOutOfRange();
        promise13EmptyWith();
        promise13KindOutOfRange();
        promise13AOutOfRange();
        promise13BOutOfRange();
        promise13WorkNegative();
        promise13AOrBNotInWith();
        promise13EightSystems();
        promise13BadArgBeforeFull();
        promise14ThereIsNone();
        promise14FirstAndLastSystem();
        promise15NumberOutOfRange();
        promise15LeastAndGreatestStage();
        promise15TheGreatestOfThoseInConflict();
        promise16WithoutSystems();
        promise16OneAndEight();
        Check.end();
    }

    /** A world with so many systems, each in conflict with all the others. */
    private static ArchetypeWorld chain(int systems) {
        ArchetypeWorld w = new ArchetypeWorld();
        for (int s = 0; s < systems; s++) {
            Check.due("chain: system", w.system(1, 0), s);
        }
        return w;
    }

    /** "two components a and b of WITH (they may be the same)": WITH of one component alone. */
    private static void termsAAndBMayBeTheSame() {
        ArchetypeWorld w = new ArchetypeWorld();
        for (int c = 0; c < 6; c++) {
            Check.due("Terms: a and b both " + c, w.system(1 << c, Check.work(4, c, c)), c);
            Check.due("Terms: its stage", w.stage(c), 0);
        }
    }

    /** "(WITHOUT taken as it is)": it may hold components of WITH, a and b among them. */
    private static void termsASharedComponentIsNoFault() {
        ArchetypeWorld w = new ArchetypeWorld();
        Check.due("Terms: WITHOUT as WITH", w.system(Check.sets(3, 3), Check.work(0, 0, 1)), 0);
        Check.due("Terms: both whole", w.system(Check.sets(63, 63), Check.work(0, 5, 5)), 1);
        Check.due("Terms: it has a stage like any other", w.system(1, Check.work(0, 0, 0)), 2);
        Check.due("Terms: behind the first", w.stage(2), 1);
    }

    /** "one of them writes a component that the other one reads or writes": both only read what they share. */
    private static void termsNothingSharedIsWritten() {
        for (int kind = 0; kind < 5; kind++) {
            ArchetypeWorld w = new ArchetypeWorld();
            for (int a = 0; a < 5; a++) {
                w.system(63, Check.work(kind, a, 5));
                Check.due("Terms: five that read 5, kind " + kind, w.stage(a), 0);
            }
            Check.due("Terms: side by side", w.stages(), 1);
        }
    }

    /** "one of them writes a component that the other one reads or writes": each way that this can be. */
    private static void termsOneSharedComponentIsWritten() {
        for (int kind = 0; kind < 5; kind++) {
            for (int other = 0; other < 5; other++) {
                int first = Check.work(kind, 0, 1);
                int[] later = {Check.work(other, 0, 2), Check.work(other, 2, 0), Check.work(other, 1, 2)};
                for (int work : later) {
                    ArchetypeWorld w = new ArchetypeWorld();
                    w.system(7, first);
                    w.system(7, work);
                    Check.due("Terms: " + work + " behind " + first, w.stage(1), 1);
                }
            }
        }
    }

    /** "with + 64 without": the least and the greatest sets that can be. */
    private static void promise13SetsInRange() {
        ArchetypeWorld w = new ArchetypeWorld();
        w.spawn(1, 1);
        w.spawn(33, 1);
        Check.due("13: the least", w.system(1, 0), 0);
        Check.due("13: one goes over both", w.frame(1), 2);
        w.unsystem();
        Check.due("13: the greatest", w.system(4095, 0), 0);
        Check.due("13: nothing fits", w.frame(1), 0);
        w.unsystem();
        Check.due("13: the greatest with", w.system(63, 0), 0);
        Check.due("13: nothing has all", w.frame(1), 0);
        w.unsystem();
        Check.due("13: the greatest without", w.system(Check.sets(1, 62), 0), 0);
        Check.due("13: one has none of it", w.frame(1), 1);
    }

    /** "with or without not 0 to 63 (sets not 0 to 4095) .. answers BAD_ARG" */
    private static void promise13SetsOutOfRange() {
        ArchetypeWorld w = new ArchetypeWorld();
        for (int sets : Edges.NOT_SET_PAIRS) {
            Check.due("13: system(" + sets + ", 0)", w.system(sets, 0), BAD_ARG);
            Check.due("13: system(" + sets + ", 5)", w.system(sets, 5), BAD_ARG);
            Check.due("13: no system after it", w.stage(0), NONE);
        }
        Check.due("13: the number was not used up", w.system(63, 0), 0);
    }

    /** "a or b not in WITH": nothing is in an empty WITH, so sets of 0 are in their range and still refused. */
    private static void promise13EmptyWith() {
        ArchetypeWorld w = new ArchetypeWorld();
        int[] empty = {0, 64, 64 * 63};
        for (int sets : empty) {
            for (int c = 0; c < 6; c++) {
                Check.due("13: system(" + sets + ", ..)", w.system(sets, Check.work(0, c, c)), BAD_ARG);
            }
        }
        Check.due("13: no system", w.unsystem(), NONE);
    }

    /** "kind not 0 to 4 .. answers BAD_ARG" */
    private static void promise13KindOutOfRange() {
        ArchetypeWorld w = new ArchetypeWorld();
        for (int kind = 5; kind < 8; kind++) {
            Check.due("13: kind " + kind, w.system(63, Check.work(kind, 0, 0)), BAD_ARG);
            Check.due("13: kind " + kind + " of the last", w.system(63, Check.work(kind, 5, 5)), BAD_ARG);
        }
        Check.due("13: the least kind", w.system(63, Check.work(0, 0, 0)), 0);
        Check.due("13: the greatest kind", w.system(63, Check.work(4, 0, 0)), 1);
    }

    /** "a .. not 0 to 5 .. answers BAD_ARG" */
    private static void promise13AOutOfRange() {
        ArchetypeWorld w = new ArchetypeWorld();
        for (int kind = 0; kind < 5; kind++) {
            Check.due("13: a of 6", w.system(63, Check.work(kind, 6, 0)), BAD_ARG);
            Check.due("13: a of 7", w.system(63, Check.work(kind, 7, 5)), BAD_ARG);
        }
        Check.due("13: the least a", w.system(63, Check.work(0, 0, 3)), 0);
        Check.due("13: the greatest a", w.system(63, Check.work(0, 5, 3)), 1);
    }

    /** "b not 0 to 5 .. answers BAD_ARG": b takes all that is left of work, so it may be large. */
    private static void promise13BOutOfRange() {
        ArchetypeWorld w = new ArchetypeWorld();
        for (int b : NOT_B) {
            Check.due("13: b of " + b, w.system(63, Check.work(0, 0, b)), BAD_ARG);
            Check.due("13: b of " + b + " of the last", w.system(63, Check.work(4, 5, b)), BAD_ARG);
        }
        Check.due("13: the greatest int", w.system(63, MAX), BAD_ARG);
        Check.due("13: the greatest b that work holds", w.system(63, MAX - 63), BAD_ARG);
        Check.due("13: the least b", w.system(63, Check.work(0, 3, 0)), 0);
        Check.due("13: the greatest b", w.system(63, Check.work(0, 3, 5)), 1);
        Check.due("13: the greatest work", w.system(63, Check.work(4, 5, 5)), 2);
    }

    /** "work negative .. answers BAD_ARG" */
    private static void promise13WorkNegative() {
        ArchetypeWorld w = new ArchetypeWorld();
        for (int work : NEGATIVE_WORK) {
            Check.due("13: system(63, " + work + ")", w.system(63, work), BAD_ARG);
            Check.due("13: system(-1, " + work + ")", w.system(-1, work), BAD_ARG);
        }
        Check.due("13: the least work", w.system(63, 0), 0);
    }

    /** "a or b not in WITH answers BAD_ARG" */
    private static void promise13AOrBNotInWith() {
        ArchetypeWorld w = new ArchetypeWorld();
        for (int c = 0; c < 6; c++) {
            int others = 63 - (1 << c);
            int inside = c == 0 ? 5 : 0;
            Check.due("13: a not in WITH", w.system(others, Check.work(0, c, inside)), BAD_ARG);
            Check.due("13: b not in WITH", w.system(others, Check.work(0, inside, c)), BAD_ARG);
            Check.due("13: neither in WITH", w.system(others, Check.work(0, c, c)), BAD_ARG);
            int there = Check.sets(others, 1 << c);
            Check.due("13: a in WITHOUT alone", w.system(there, Check.work(0, c, inside)), BAD_ARG);
            Check.due("13: b in WITHOUT alone", w.system(there, Check.work(0, inside, c)), BAD_ARG);
        }
        Check.due("13: no system", w.stages(), 0);
    }

    /** "8 systems answers FULL" */
    private static void promise13EightSystems() {
        ArchetypeWorld w = chain(7);
        Check.due("13: the eighth", w.system(4095, Check.work(4, 5, 5)), 7);
        Check.due("13: a ninth", w.system(1, 0), FULL);
        Check.due("13: the greatest ninth", w.system(4095, Check.work(4, 5, 5)), FULL);
        Check.due("13: the eighth is as it was", w.stage(7), 0);
        Check.due("13: there is no ninth", w.stage(8), NONE);
        Check.due("13: remove one", w.unsystem(), 7);
        Check.due("13: room again", w.system(1, 0), 7);
        Check.due("13: full again", w.system(1, 0), FULL);
    }

    /** "Tested in this order": each reason for BAD_ARG, then FULL. */
    private static void promise13BadArgBeforeFull() {
        ArchetypeWorld w = chain(8);
        for (int sets : Edges.NOT_SET_PAIRS) {
            Check.due("13: sets before FULL", w.system(sets, 0), BAD_ARG);
        }
        for (int work : NEGATIVE_WORK) {
            Check.due("13: negative work before FULL", w.system(63, work), BAD_ARG);
        }
        for (int b : NOT_B) {
            Check.due("13: b before FULL", w.system(63, Check.work(0, 0, b)), BAD_ARG);
        }
        Check.due("13: kind before FULL", w.system(63, Check.work(5, 0, 0)), BAD_ARG);
        Check.due("13: a before FULL", w.system(63, Check.work(0, 6, 0)), BAD_ARG);
        Check.due("13: a not in WITH before FULL", w.system(1, Check.work(0, 1, 0)), BAD_ARG);
        Check.due("13: b not in WITH before FULL", w.system(1, Check.work(0, 0, 1)), BAD_ARG);
        Check.due("13: empty WITH before FULL", w.system(0, 0), BAD_ARG);
        Check.due("13: FULL", w.system(1, 0), FULL);
        Check.due("13: the stages are as they were", w.stages(), 8);
    }

    /** "NONE if there is none" */
    private static void promise14ThereIsNone() {
        ArchetypeWorld w = new ArchetypeWorld();
        Check.due("14: in a new world", w.unsystem(), NONE);
        w.system(63, -1);
        Check.due("14: after a refused system", w.unsystem(), NONE);
        Check.due("14: the first is 0 all the same", w.system(1, 0), 0);
        Check.due("14: the only one", w.unsystem(), 0);
        Check.due("14: after the only one", w.unsystem(), NONE);
        Check.due("14: and once more", w.unsystem(), NONE);
        Check.due("14: the first is 0 again", w.system(1, 0), 0);
    }

    /** "Removes the system with the highest number. .. Otherwise the number it had." */
    private static void promise14FirstAndLastSystem() {
        ArchetypeWorld w = chain(8);
        w.system(1, 0);
        for (int s = 7; s >= 0; s--) {
            Check.due("14: the highest number", w.unsystem(), s);
            Check.due("14: it is gone", w.stage(s), NONE);
            Check.due("14: those before it stay", w.stages(), s);
        }
    }

    /** "NONE if there is none" */
    private static void promise15NumberOutOfRange() {
        int[] never = {MIN, MIN + 1, -8, -1, 8, 9, 16, 1 << 30, MAX};
        for (int systems = 0; systems <= 8; systems++) {
            ArchetypeWorld w = chain(systems);
            for (int s : never) {
                Check.due("15: stage(" + s + ") of " + systems, w.stage(s), NONE);
            }
            for (int s = 0; s < 8; s++) {
                Check.due("15: stage(" + s + ") of " + systems, w.stage(s), s < systems ? s : NONE);
            }
        }
    }

    /** "0 if it conflicts with no system with a smaller number": the first one, and the last; and the greatest, 7. */
    private static void promise15LeastAndGreatestStage() {
        ArchetypeWorld w = chain(7);
        Check.due("15: the first", w.stage(0), 0);
        w.system(2, Check.work(0, 1, 1));
        Check.due("15: a last one without conflict", w.stage(7), 0);
        w.unsystem();
        w.system(3, Check.work(0, 1, 0));
        Check.due("15: a last one in conflict with all", w.stage(7), 7);
    }

    /** "one more than the greatest stage of a system with a smaller number with which it conflicts" */
    private static void promise15TheGreatestOfThoseInConflict() {
        ArchetypeWorld w = chain(3);
        w.system(2, Check.work(0, 1, 1));
        Check.due("15: a greater stage without conflict is passed over", w.stage(3), 0);
        w.system(6, Check.work(0, 2, 1));
        Check.due("15: behind the one in conflict alone", w.stage(4), 1);
        w.system(5, Check.work(0, 2, 0));
        Check.due("15: the greatest, though not the last", w.stage(5), 3);
        w.system(2, Check.work(2, 1, 1));
        Check.due("15: the last, though not the first", w.stage(6), 2);
    }

    /** "0 without systems" */
    private static void promise16WithoutSystems() {
        ArchetypeWorld w = new ArchetypeWorld();
        Check.due("16: a new world", w.stages(), 0);
        w.system(0, 0);
        Check.due("16: after a refused system", w.stages(), 0);
        w.system(1, 0);
        Check.due("16: one", w.stages(), 1);
        w.unsystem();
        Check.due("16: none again", w.stages(), 0);
    }

    /** "one more than the greatest stage": from 1 to 8. */
    private static void promise16OneAndEight() {
        for (int systems = 1; systems <= 8; systems++) {
            Check.due("16: a chain of " + systems, chain(systems).stages(), systems);
        }
        ArchetypeWorld w = chain(8);
        w.system(1, 0);
        Check.due("16: after a refused ninth", w.stages(), 8);
        ArchetypeWorld apart = new ArchetypeWorld();
        for (int s = 0; s < 6; s++) {
            apart.system(63, Check.work(0, s, s));
        }
        Check.due("16: six side by side", apart.stages(), 1);
    }
}
