/** A refused call changes nothing: a world that refused calls goes on like its twin that never got them. */
public final class RefusalTest {
    private static final int MIN = Integer.MIN_VALUE;
    private static final int MAX = Integer.MAX_VALUE;

    public static void main(String[] args) {
        refusedInAFullWorld();
        refusedInAWorldWithRoom();
        Check.end();
    }

    private static void refusedInAFullWorld() {
        ArchetypeWorld world = fullWorld();
        Check.due("spawn when full", world.spawn(63, 9), ArchetypeWorld.FULL);
        Check.due("system when full", world.system(63, 0), ArchetypeWorld.FULL);
        Check.due("system(1, 8)", world.system(1, 8), ArchetypeWorld.BAD_ARG);
        Check.due("system(MIN, MIN)", world.system(MIN, MIN), ArchetypeWorld.BAD_ARG);
        compare(world, fullWorld());
    }

    private static void refusedInAWorldWithRoom() {
        ArchetypeWorld world = worldWithRoom();
        Check.due("spawn(64, 9)", world.spawn(64, 9), ArchetypeWorld.BAD_ARG);
        Check.due("spawn(MIN, 9)", world.spawn(MIN, 9), ArchetypeWorld.BAD_ARG);
        Check.due("kill(5)", world.kill(5), ArchetypeWorld.NONE);
        Check.due("kill(MAX)", world.kill(MAX), ArchetypeWorld.NONE);
        Check.due("put(5, 0, 9)", world.put(5, 0, 9), ArchetypeWorld.NONE);
        Check.due("put(0, 6, 9)", world.put(0, 6, 9), ArchetypeWorld.BAD_ARG);
        Check.due("put(1, -1, 9)", world.put(1, -1, 9), ArchetypeWorld.BAD_ARG);
        Check.due("drop(5, 0)", world.drop(5, 0), ArchetypeWorld.NONE);
        Check.due("drop(0, 32)", world.drop(0, 32), ArchetypeWorld.BAD_ARG);
        Check.due("system(4096, 0)", world.system(4096, 0), ArchetypeWorld.BAD_ARG);
        Check.due("system(63, 5)", world.system(63, 5), ArchetypeWorld.BAD_ARG);
        compare(world, worldWithRoom());
    }

    private static ArchetypeWorld fullWorld() {
        ArchetypeWorld w = new ArchetypeWorld();
        for (int e = 0; e < 24; e++) {
            w.spawn(63 - e, 3 * e - 20);
        }
        for (int s = 0; s < 8; s++) {
            w.system(Check.sets(63 & ~(1 << s % 3), s % 2), Check.work(s % 5, 3 + s % 3, 3 + s / 3));
        }
        return w;
    }

    private static ArchetypeWorld worldWithRoom() {
        ArchetypeWorld w = new ArchetypeWorld();
        for (int e = 0; e < 8; e++) {
            w.spawn(7 * e, 5 - e);
        }
        w.kill(5);
        w.system(Check.sets(3, 0), Check.work(0, 0, 1));
        w.system(Check.sets(6, 8), Check.work(3, 1, 2));
        return w;
    }

    private static void compare(ArchetypeWorld world, ArchetypeWorld twin) {
        for (int e = 0; e < 24; e++) {
            Check.due("parts(" + e + ")", world.parts(e), twin.parts(e));
            for (int c = 0; c < 6; c++) {
                Check.due("get(" + e + ", " + c + ")", world.get(e, c), twin.get(e, c));
            }
        }
        for (int s = 0; s < 8; s++) {
            Check.due("stage(" + s + ")", world.stage(s), twin.stage(s));
        }
        Check.due("living()", world.living(), twin.living());
        Check.due("frame(3)", world.frame(3), twin.frame(3));
        Check.due("digest()", world.digest(), twin.digest());
        Check.due("spawn(1, 1)", world.spawn(1, 1), twin.spawn(1, 1));
        Check.due("unsystem()", world.unsystem(), twin.unsystem());
        Check.due("frame(1)", world.frame(1), twin.frame(1));
        Check.due("digest() at the end", world.digest(), twin.digest());
    }
}
