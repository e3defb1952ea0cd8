/** What the tests share: comparing answers, and ending with exit code 1 after a wrong one. */
final class Check {
    private static int wrong = 0;

    private Check() {
    }

    static void due(String what, long got, long want) {
        if (got != want) {
            wrong++;
            System.out.println(what + " answered " + got + ", due is " + want);
        }
    }

    static void holds(String what, boolean held) {
        if (!held) {
            wrong++;
            System.out.println(what + " does not hold");
        }
    }

    static void end() {
        System.out.println(wrong == 0 ? "all answers are as due" : wrong + " answers are not as due");
        if (wrong != 0) {
            System.exit(1);
        }
    }

    /** The number that system() takes for the two sets. */
    static int sets(int with, int without) {
        return with + 64 * without;
    }

    /** The number that system() takes for a kind of work and its two components. */
    static int work(int kind, int a, int b) {
        return kind + 8 * a + 64 * b;
    }

    /** Spawns 24 entities: the whole of a new world. */
    static void fill(ArchetypeWorld world, int set, int value) {
        for (int e = 0; e < 24; e++) {
            due("filling: spawn", world.spawn(set, value), e);
        }
    }
}
