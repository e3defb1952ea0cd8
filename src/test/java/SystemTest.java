/** Promises 13 to 16 for ordinary arguments: system, unsystem, stage and stages. */
public final class SystemTest {
    private static final int BAD_ARG = ArchetypeWorld.BAD_ARG;
    private static final int FULL = ArchetypeWorld.FULL;
    private static final int NONE = ArchetypeWorld.NONE;

    public static void main(String[] args) {
        promise13();
        promise13EveryWork();
        promise13PartsOutsideWith();
        promise14();
        promise14LeavesTheOthers();
        promise15EveryPair();
        promise15GreatestStageCounts();
        promise15EarlierSystemsKeepTheirStage();
        promise16();
        Check.end();
    }

    private static void promise13() {
        ArchetypeWorld w = new ArchetypeWorld();
        for (int s = 0; s < 8; s++) {
            Check.due("13: system", w.system(Check.sets(63, 63), Check.work(s % 5, s % 6, 5 - s % 6)), s);
        }
        Check.due("13: a ninth", w.system(1, 0), FULL);
        Check.due("13: none added", w.stage(8), NONE);
        w.unsystem();
        Check.due("13: room again", w.system(1, 0), 7);
    }

    /** Every work number up to far above the greatest good one. */
    private static void promise13EveryWork() {
        ArchetypeWorld w = null;
        for (int work = 0; work < 4200; work++) {
            if (work % 200 == 0) {
                w = new ArchetypeWorld();
            }
            boolean good = work % 8 <= 4 && work / 8 % 8 <= 5 && work / 64 <= 5;
            Check.due("13: work " + work, w.system(63, work), good ? 0 : BAD_ARG);
            if (good) {
                w.unsystem();
            }
        }
    }

    private static void promise13PartsOutsideWith() {
        for (int with = 0; with < 64; with++) {
            ArchetypeWorld w = new ArchetypeWorld();
            for (int a = 0; a < 6; a++) {
                for (int b = 0; b < 6; b++) {
                    boolean good = (with >> a) % 2 == 1 && (with >> b) % 2 == 1;
                    // All components in WITHOUT, to see that they are not taken for WITH.
                    int got = w.system(Check.sets(with, 63), Check.work(3, a, b));
                    Check.due("13: " + a + " and " + b + " of " + with, got, good ? 0 : BAD_ARG);
                    w.unsystem();
                }
            }
        }
    }

    private static void promise14() {
        ArchetypeWorld w = new ArchetypeWorld();
        Check.due("14: without systems", w.unsystem(), NONE);
        for (int s = 0; s < 8; s++) {
            w.system(1, 0);
        }
        for (int s = 7; s >= 0; s--) {
            Check.due("14: unsystem", w.unsystem(), s);
            Check.due("14: it is gone", w.stage(s), NONE);
        }
        Check.due("14: all removed", w.unsystem(), NONE);
        Check.due("14: numbers start over", w.system(1, 0), 0);
    }

    private static void promise14LeavesTheOthers() {
        ArchetypeWorld w = new ArchetypeWorld();
        w.spawn(3, 5);
        w.system(1, Check.work(0, 0, 0));
        w.system(2, Check.work(3, 1, 1));
        w.unsystem();
        Check.due("14: the other one works", w.frame(1), 1);
        Check.due("14: 5 + 5", w.get(0, 0), 10);
        Check.due("14: the removed one does not work", w.get(0, 1), 5);
        w.system(2, Check.work(1, 1, 1));
        Check.due("14: a new one in its place", w.frame(1), 2);
        Check.due("14: 10 + 10", w.get(0, 0), 20);
        Check.due("14: 5 - 5", w.get(0, 1), 0);
    }

    /** Two systems of any kinds and components conflict just as the document's terms say. */
    private static void promise15EveryPair() {
        for (int first = 0; first < 180; first++) {
            ArchetypeWorld w = new ArchetypeWorld();
            int work = Check.work(first % 5, first / 5 % 6, first / 30);
            w.system(63, work);
            for (int second = 0; second < 180; second++) {
                int other = Check.work(second % 5, second / 5 % 6, second / 30);
                w.system(63, other);
                boolean conflict = (written(work) & touched(other)) != 0 || (written(other) & touched(work)) != 0;
                Check.due("15: work " + other + " after " + work, w.stage(1), conflict ? 1 : 0);
                if (second == 120) {
                    w = new ArchetypeWorld();
                    w.system(63, work);
                } else {
                    w.unsystem();
                }
            }
        }
    }

    private static int written(int work) {
        return 1 << work / 8 % 8;
    }

    private static int touched(int work) {
        int read = 1 << work / 64;
        if (work % 8 != 2) {
            read |= 1 << work / 8 % 8;
        }
        return read | written(work);
    }

    private static void promise15GreatestStageCounts() {
        ArchetypeWorld w = new ArchetypeWorld();
        w.system(63, Check.work(0, 0, 0));
        w.system(63, Check.work(0, 0, 0));
        w.system(63, Check.work(0, 1, 1));
        w.system(63, Check.work(0, 1, 0));
        w.system(63, Check.work(0, 2, 1));
        w.system(63, Check.work(2, 3, 4));
        w.system(63, Check.work(2, 5, 4));
        w.system(63, Check.work(4, 3, 2));
        int[] due = {0, 1, 0, 2, 3, 0, 0, 4};
        for (int s = 0; s < 8; s++) {
            Check.due("15: stage(" + s + ")", w.stage(s), due[s]);
        }
        Check.due("16: stages", w.stages(), 5);
    }

    private static void promise15EarlierSystemsKeepTheirStage() {
        ArchetypeWorld w = new ArchetypeWorld();
        w.system(Check.sets(3, 0), Check.work(0, 0, 1));
        w.system(Check.sets(3, 0), Check.work(0, 1, 0));
        w.system(Check.sets(4, 3), Check.work(0, 2, 2));
        Check.due("15: stage(0)", w.stage(0), 0);
        Check.due("15: stage(1)", w.stage(1), 1);
        Check.due("15: the sets make no conflict", w.stage(2), 0);
        w.unsystem();
        w.system(Check.sets(7, 0), Check.work(2, 2, 1));
        Check.due("15: anew after unsystem", w.stage(2), 2);
        Check.due("15: stage(1) as before", w.stage(1), 1);
        ArchetypeWorld apart = new ArchetypeWorld();
        apart.system(Check.sets(1, 2), Check.work(0, 0, 0));
        apart.system(Check.sets(3, 0), Check.work(0, 0, 0));
        Check.due("15: systems over other entities conflict too", apart.stage(1), 1);
    }

    private static void promise16() {
        ArchetypeWorld w = new ArchetypeWorld();
        Check.due("16: without systems", w.stages(), 0);
        for (int c = 0; c < 6; c++) {
            w.system(63, Check.work(0, c, c));
            Check.due("16: side by side", w.stages(), 1);
        }
        w.system(63, Check.work(0, 5, 4));
        Check.due("16: one behind another", w.stages(), 2);
        w.system(63, Check.work(0, 0, 5));
        Check.due("16: and another", w.stages(), 3);
        w.unsystem();
        Check.due("16: one less", w.stages(), 2);
        w.unsystem();
        w.unsystem();
        Check.due("16: one stage", w.stages(), 1);
        ArchetypeWorld early = new ArchetypeWorld();
        early.system(63, Check.work(0, 0, 0));
        early.system(63, Check.work(0, 0, 0));
        early.system(63, Check.work(0, 1, 1));
        Check.due("16: the greatest, not the last", early.stages(), 2);
    }
}
