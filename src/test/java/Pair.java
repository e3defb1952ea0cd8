/** A world and a model side by side: each call goes to both, and both must answer the same. */
final class Pair {
    private final ArchetypeWorld world = new ArchetypeWorld();
    private final Model model = new Model();
    private final String where;

    /** Where it stands is told with each wrong answer. */
    Pair(String where) {
        this.where = where;
    }

    private void due(String call, int got, int want) {
        Check.due(where + ": " + call, got, want);
    }

    void spawn(int set, int value) {
        due("spawn(" + set + ", " + value + ")", world.spawn(set, value), model.spawn(set, value));
    }

    void kill(int e) {
        due("kill(" + e + ")", world.kill(e), model.kill(e));
    }

    void put(int e, int c, int value) {
        due("put(" + e + ", " + c + ", " + value + ")", world.put(e, c, value), model.put(e, c, value));
    }

    void drop(int e, int c) {
        due("drop(" + e + ", " + c + ")", world.drop(e, c), model.drop(e, c));
    }

    void get(int e, int c) {
        due("get(" + e + ", " + c + ")", world.get(e, c), model.get(e, c));
    }

    void parts(int e) {
        due("parts(" + e + ")", world.parts(e), model.parts(e));
    }

    void living() {
        due("living()", world.living(), model.living());
    }

    void count(int with, int without) {
        due("count(" + with + ", " + without + ")", world.count(with, without), model.count(with, without));
    }

    void next(int with, int without, int from) {
        due("next(" + with + ", " + without + ", " + from + ")",
            world.next(with, without, from), model.next(with, without, from));
    }

    void sum(int with, int without, int c) {
        due("sum(" + with + ", " + without + ", " + c + ")",
            world.sum(with, without, c), model.sum(with, without, c));
    }

    void kinds() {
        due("kinds()", world.kinds(), model.kinds());
    }

    void system(int sets, int work) {
        due("system(" + sets + ", " + work + ")", world.system(sets, work), model.system(sets, work));
    }

    void unsystem() {
        due("unsystem()", world.unsystem(), model.unsystem());
    }

    void stage(int s) {
        due("stage(" + s + ")", world.stage(s), model.stage(s));
    }

    void stages() {
        due("stages()", world.stages(), model.stages());
    }

    void frame(int n) {
        due("frame(" + n + ")", world.frame(n), model.frame(n));
    }

    void digest() {
        due("digest()", world.digest(), model.digest());
    }

    /** All that can be asked, in 200 calls of an object's 512; a refused call that changed something shows here. */
    void everything() {
        for (int e = 0; e < 24; e++) {
            parts(e);
            for (int c = 0; c < 6; c++) {
                get(e, c);
            }
        }
        for (int s = 0; s < 8; s++) {
            stage(s);
        }
        living();
        kinds();
        stages();
        digest();
        // What the systems go over and do shows only in a frame.
        frame(1);
        digest();
        spawn(63, 5);
        unsystem();
        frame(1);
        digest();
    }
}
