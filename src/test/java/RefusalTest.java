import java.util.ArrayList;
import java.util.List;
import java.util.function.Supplier;
import java.util.function.ToIntFunction;

/**
 * "A refused call answers the code named and changes nothing." Each refused call is made on a world
 * of its own, which must then go on like its twin that never got the call; then they are made one
 * behind the other, many on one world.
 */
public final class RefusalTest {
    private static final int BAD_ARG = ArchetypeWorld.BAD_ARG;
    private static final int FULL = ArchetypeWorld.FULL;
    private static final int NONE = ArchetypeWorld.NONE;
    // So many refused calls on one world leave room for the comparison within its 512 calls.
    private static final int AT_ONCE = 200;

    private record Refused(String call, ToIntFunction<ArchetypeWorld> onWorld, int due) {
    }

    private final String name;
    private final Supplier<ArchetypeWorld> maker;
    private final List<Refused> calls = new ArrayList<>();

    private RefusalTest(String name, Supplier<ArchetypeWorld> maker) {
        this.name = name;
        this.maker = maker;
    }

    public static void main(String[] args) {
        inANewWorld();
        inAWorldWithRoom();
        inAFullWorld();
        inAWorldOfSystemsAlone();
        inAWorldOfEntitiesAlone();
        Check.end();
    }

    private static void inANewWorld() {
        RefusalTest test = new RefusalTest("a new world", ArchetypeWorld::new);
        test.refusedInEveryWorld();
        test.notLiving(0);
        test.notLiving(23);
        test.notSystem(0);
        test.add("unsystem()", w -> w.unsystem(), NONE);
        test.add("next(0, 0, 0)", w -> w.next(0, 0, 0), NONE);
        test.run();
    }

    private static void inAWorldWithRoom() {
        RefusalTest test = new RefusalTest("a world with room", RefusalTest::worldWithRoom);
        test.refusedInEveryWorld();
        test.badComponents(0);
        test.badComponents(7);
        test.notLiving(5);
        test.notLiving(8);
        test.notSystem(2);
        test.add("next(0, 0, 8)", w -> w.next(0, 0, 8), NONE);
        test.run();
    }

    private static void inAFullWorld() {
        RefusalTest test = new RefusalTest("a full world", RefusalTest::fullWorld);
        test.refusedInEveryWorld();
        test.badComponents(0);
        test.badComponents(23);
        test.noRoomForEntities();
        test.noRoomForSystems();
        test.add("next(63, 63, 0)", w -> w.next(63, 63, 0), NONE);
        test.run();
    }

    private static void inAWorldOfSystemsAlone() {
        RefusalTest test = new RefusalTest("a world of systems alone", RefusalTest::systemsAlone);
        test.refusedInEveryWorld();
        test.notLiving(0);
        test.noRoomForSystems();
        test.run();
    }

    private static void inAWorldOfEntitiesAlone() {
        RefusalTest test = new RefusalTest("a world of entities alone", RefusalTest::entitiesAlone);
        test.refusedInEveryWorld();
        test.badComponents(12);
        test.noRoomForEntities();
        test.notSystem(0);
        test.add("unsystem()", w -> w.unsystem(), NONE);
        test.run();
    }

    private void add(String call, ToIntFunction<ArchetypeWorld> onWorld, int due) {
        calls.add(new Refused(call, onWorld, due));
    }

    private void refusedInEveryWorld() {
        badSets();
        badSystems();
        numbersThatNothingHas();
    }

    private void badSets() {
        for (int set : Edges.NOT_SETS) {
            add("spawn(" + set + ", 9)", w -> w.spawn(set, 9), BAD_ARG);
            add("count(" + set + ", 0)", w -> w.count(set, 0), BAD_ARG);
            add("count(0, " + set + ")", w -> w.count(0, set), BAD_ARG);
            add("next(" + set + ", 0, 0)", w -> w.next(set, 0, 0), BAD_ARG);
            add("next(0, " + set + ", 24)", w -> w.next(0, set, 24), BAD_ARG);
            add("sum(" + set + ", 0, 0)", w -> w.sum(set, 0, 0), 0);
            add("sum(0, " + set + ", 0)", w -> w.sum(0, set, 0), 0);
        }
        for (int c : Edges.NOT_COMPONENTS) {
            add("sum(0, 0, " + c + ")", w -> w.sum(0, 0, c), 0);
        }
    }

    private void badSystems() {
        for (int sets : Edges.NOT_SET_PAIRS) {
            add("system(" + sets + ", 0)", w -> w.system(sets, 0), BAD_ARG);
        }
        int[] notWork = {
            Edges.MIN, -64, -1, Check.work(5, 0, 0), Check.work(7, 5, 5), Check.work(0, 6, 0), Check.work(4, 7, 5),
            Check.work(0, 0, 6), Check.work(4, 5, 8), Check.work(0, 0, 32), Edges.MAX};
        for (int work : notWork) {
            add("system(63, " + work + ")", w -> w.system(63, work), BAD_ARG);
        }
        add("system, a not in WITH", w -> w.system(1, Check.work(0, 5, 0)), BAD_ARG);
        add("system, b not in WITH", w -> w.system(1, Check.work(0, 0, 5)), BAD_ARG);
        add("system, WITH empty", w -> w.system(0, 0), BAD_ARG);
    }

    private void numbersThatNothingHas() {
        for (int s : new int[] {-1, 8, Edges.MIN, Edges.MAX}) {
            notSystem(s);
        }
        for (int e : Edges.NOT_ENTITIES) {
            notLiving(e);
        }
    }

    private void badComponents(int e) {
        for (int c : Edges.NOT_COMPONENTS) {
            add("put(" + e + ", " + c + ", 9)", w -> w.put(e, c, 9), BAD_ARG);
            add("drop(" + e + ", " + c + ")", w -> w.drop(e, c), BAD_ARG);
            add("get(" + e + ", " + c + ")", w -> w.get(e, c), 0);
        }
    }

    private void notLiving(int e) {
        add("kill(" + e + ")", w -> w.kill(e), NONE);
        add("put(" + e + ", 0, 9)", w -> w.put(e, 0, 9), NONE);
        add("put(" + e + ", 6, 9)", w -> w.put(e, 6, 9), NONE);
        add("drop(" + e + ", 0)", w -> w.drop(e, 0), NONE);
        add("drop(" + e + ", 6)", w -> w.drop(e, 6), NONE);
        add("get(" + e + ", 0)", w -> w.get(e, 0), 0);
        add("parts(" + e + ")", w -> w.parts(e), NONE);
    }

    private void notSystem(int s) {
        add("stage(" + s + ")", w -> w.stage(s), NONE);
    }

    private void noRoomForEntities() {
        add("spawn(0, 9)", w -> w.spawn(0, 9), FULL);
        add("spawn(63, 9)", w -> w.spawn(63, 9), FULL);
    }

    private void noRoomForSystems() {
        add("system(1, 0)", w -> w.system(1, 0), FULL);
        add("system(63, ..)", w -> w.system(63, Check.work(4, 5, 5)), FULL);
    }

    private void run() {
        for (Refused refused : calls) {
            ArchetypeWorld world = maker.get();
            refuse(world, refused);
            compare("after " + refused.call(), world);
        }
        for (int first = 0; first < calls.size(); first += AT_ONCE) {
            ArchetypeWorld world = maker.get();
            int end = Math.min(first + AT_ONCE, calls.size());
            for (Refused refused : calls.subList(first, end)) {
                refuse(world, refused);
            }
            compare("after calls " + first + " to " + end, world);
        }
    }

    private void refuse(ArchetypeWorld world, Refused refused) {
        Check.due(name + ": " + refused.call(), refused.onWorld().applyAsInt(world), refused.due());
    }

    /** The world must stand and go on like a twin that got no refused call. */
    private void compare(String when, ArchetypeWorld world) {
        ArchetypeWorld twin = maker.get();
        String where = name + " " + when + ": ";
        for (int e = 0; e < 24; e++) {
            Check.due(where + "parts(" + e + ")", world.parts(e), twin.parts(e));
            for (int c = 0; c < 6; c++) {
                Check.due(where + "get(" + e + ", " + c + ")", world.get(e, c), twin.get(e, c));
            }
        }
        for (int s = 0; s < 8; s++) {
            Check.due(where + "stage(" + s + ")", world.stage(s), twin.stage(s));
        }
        Check.due(where + "living()", world.living(), twin.living());
        // The systems' sets and kinds show in frames alone, so one frame is done for each that is left.
        for (int s = 0; s < 9; s++) {
            Check.due(where + "frame(1)", world.frame(1), twin.frame(1));
            Check.due(where + "digest()", world.digest(), twin.digest());
            Check.due(where + "unsystem()", world.unsystem(), twin.unsystem());
        }
        Check.due(where + "spawn(1, 1)", world.spawn(1, 1), twin.spawn(1, 1));
        Check.due(where + "system(1, 0)", world.system(1, 0), twin.system(1, 0));
        Check.due(where + "frame(1) at the end", world.frame(1), twin.frame(1));
        Check.due(where + "digest() at the end", world.digest(), twin.digest());
    }

    private static ArchetypeWorld entitiesAlone() {
        ArchetypeWorld w = new ArchetypeWorld();
        for (int e = 0; e < 24; e++) {
            Check.due("making a world: spawn", w.spawn(63 - e, 3 * e - 20), e);
        }
        return w;
    }

    private static void addEightSystems(ArchetypeWorld w) {
        for (int s = 0; s < 8; s++) {
            int sets = Check.sets(63 & ~(1 << s % 3), s % 2);
            Check.due("making a world: system", w.system(sets, Check.work(s % 5, 3 + s % 3, 3 + s / 3)), s);
        }
    }

    private static ArchetypeWorld fullWorld() {
        ArchetypeWorld w = entitiesAlone();
        addEightSystems(w);
        return w;
    }

    private static ArchetypeWorld systemsAlone() {
        ArchetypeWorld w = new ArchetypeWorld();
        addEightSystems(w);
        return w;
    }

    private static ArchetypeWorld worldWithRoom() {
        ArchetypeWorld w = new ArchetypeWorld();
        for (int e = 0; e < 8; e++) {
            w.spawn(7 * e, 5 - e);
        }
        w.kill(5);
        w.system(Check.sets(3, 0), Check.work(0, 0, 1));
        w.system(Check.sets(6, 8), Check.work(3, 1, 2));
        return w;
    }
}
