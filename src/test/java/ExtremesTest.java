import java.util.function.Consumer;

/**
 * "No call ever throws": every call of the face with every mix of arguments from the ends of the
 * ranges and of the ints, each on worlds of several kinds. What it answers and what it leaves
 * behind is held against the model.
 */
public final class ExtremesTest {
    private static final int MIN = Edges.MIN;
    private static final int MAX = Edges.MAX;
    private static final int[] ENTITIES = {MIN, -1, 0, 1, 22, 23, 24, MAX};
    private static final int[] COMPONENTS = {MIN, -1, 0, 1, 4, 5, 6, 32, MAX};
    private static final int[] SETS = {MIN, -1, 0, 1, 62, 63, 64, MAX};
    private static final int[] VALUES = {MIN, -1, 0, MAX};
    private static final int[] FRAMES = {MIN, -1, 0, 1, 2, 9, 10, 11, MAX};
    private static final int[] SYSTEMS = {MIN, -1, 0, 1, 6, 7, 8, MAX};
    private static final int[] SET_PAIRS = {MIN, -1, 0, 1, 62, 63, 64, 65, 4031, 4032, 4094, 4095, 4096, MAX};
    private static final int[] WORKS = {
        MIN, -1, 0, 4, 5, 7, 8, Check.work(0, 5, 0), Check.work(4, 5, 0), Check.work(0, 6, 0), Check.work(4, 0, 5),
        Check.work(4, 5, 5), Check.work(5, 5, 5), Check.work(0, 0, 6), Check.work(0, 0, 32), MAX - 63, MAX};

    private final String name;
    private final Consumer<Pair> maker;

    private ExtremesTest(String name, Consumer<Pair> maker) {
        this.name = name;
        this.maker = maker;
    }

    public static void main(String[] args) {
        new ExtremesTest("a new world", p -> { }).run();
        new ExtremesTest("a world with gaps", ExtremesTest::gaps).run();
        new ExtremesTest("a full world", ExtremesTest::full).run();
        new ExtremesTest("24 entities, no system", ExtremesTest::allEntities).run();
        new ExtremesTest("8 systems, no entity", ExtremesTest::allSystems).run();
        Check.end();
    }

    private static void gaps(Pair p) {
        for (int e = 0; e < 24; e++) {
            p.spawn(5 * e % 64, e - 12);
        }
        p.kill(0);
        p.kill(22);
        p.kill(9);
        for (int s = 0; s < 7; s++) {
            p.system(Check.sets(5, 2), Check.work(s % 5, s % 2 * 2, 2));
        }
    }

    private static void full(Pair p) {
        allEntities(p);
        allSystems(p);
    }

    private static void allEntities(Pair p) {
        for (int e = 0; e < 24; e++) {
            p.spawn(63 - e % 3, e % 2 == 0 ? MAX - e : MIN + e);
        }
    }

    private static void allSystems(Pair p) {
        for (int s = 0; s < 8; s++) {
            p.system(Check.sets(60, s % 3), Check.work(s % 5, 2 + s % 4, 5 - s % 3));
        }
    }

    private void after(Consumer<Pair> call) {
        Pair pair = new Pair(name);
        maker.accept(pair);
        call.accept(pair);
        pair.everything();
    }

    private void run() {
        callsWithoutArguments();
        callsOnEntities();
        callsOnSets();
        callsOnSystems();
    }

    private void callsWithoutArguments() {
        after(p -> p.living());
        after(p -> p.kinds());
        after(p -> p.unsystem());
        after(p -> p.stages());
        after(p -> p.digest());
    }

    private void callsOnEntities() {
        for (int e : ENTITIES) {
            after(p -> p.kill(e));
            after(p -> p.parts(e));
            for (int c : COMPONENTS) {
                after(p -> p.get(e, c));
                after(p -> p.drop(e, c));
                for (int value : VALUES) {
                    after(p -> p.put(e, c, value));
                }
            }
        }
    }

    private void callsOnSets() {
        for (int set : SETS) {
            for (int value : VALUES) {
                after(p -> p.spawn(set, value));
            }
            for (int without : SETS) {
                after(p -> p.count(set, without));
                for (int from : ENTITIES) {
                    after(p -> p.next(set, without, from));
                }
                for (int c : COMPONENTS) {
                    after(p -> p.sum(set, without, c));
                }
            }
        }
    }

    private void callsOnSystems() {
        for (int sets : SET_PAIRS) {
            for (int work : WORKS) {
                after(p -> p.system(sets, work));
            }
        }
        for (int s : SYSTEMS) {
            after(p -> p.stage(s));
        }
        for (int n : FRAMES) {
            after(p -> p.frame(n));
        }
    }
}
