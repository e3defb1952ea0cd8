import java.util.Random;

/**
 * Long runs of calls, right and wrong ones mixed, against a second writing of the document that
 * holds its state in other ways. The seeds are fixed, so each run is the same every time.
 */
public final class ModelTest {
    private static final int RUNS = 1000;
    private static final int CALLS = 300;
    private static final int[] ODD = {
        Integer.MIN_VALUE, Integer.MIN_VALUE + 1, -4096, -65, -64, -33, -32, -2, -1, 5, 6, 7, 8, 9, 23, 24, 25, 31, 32,
        63, 64, 65, 383, 384, 4095, 4096, 1 << 30, Integer.MAX_VALUE - 1, Integer.MAX_VALUE};

    private final Random random;
    private final Pair pair;
    // In how many of 100 calls an argument may be an odd one, and how many of 100 calls kill.
    private final int oddShare;
    private final int killShare;

    private ModelTest(int seed) {
        random = new Random(seed);
        pair = new Pair("run " + seed);
        oddShare = seed % 3 * 5;
        killShare = seed % 4 * 4;
    }

    public static void main(String[] args) {
        for (int seed = 0; seed < RUNS; seed++) {
            ModelTest test = new ModelTest(seed);
            for (int call = 0; call < CALLS; call++) {
                test.callOnce();
            }
            test.pair.everything();
        }
        Check.end();
    }

    private int oddOr(int usual) {
        return random.nextInt(100) < oddShare ? ODD[random.nextInt(ODD.length)] : usual;
    }

    private int pick(int least, int most) {
        return oddOr(least + random.nextInt(most - least + 1));
    }

    private int pickValue() {
        return random.nextInt(4) == 0 ? random.nextInt() : random.nextInt(21) - 10;
    }

    /** Few members more often than many, so that something fits. */
    private int pickSmallSet() {
        return oddOr(random.nextInt(64) & random.nextInt(64));
    }

    private void callOnce() {
        int share = random.nextInt(100);
        if (share < killShare) {
            pair.kill(pick(0, 23));
        } else if (share < 60) {
            changeOnce();
        } else {
            askOnce();
        }
    }

    private void changeOnce() {
        int e = pick(0, 23);
        int c = pick(0, 5);
        int value = pickValue();
        switch (random.nextInt(8)) {
            case 0, 1 -> pair.spawn(pick(0, 63), value);
            case 2 -> pair.put(e, c, value);
            case 3 -> pair.drop(e, c);
            case 4, 5 -> systemOnce();
            case 6 -> pair.frame(pick(-1, 3));
            default -> {
                if (random.nextInt(3) == 0) {
                    pair.unsystem();
                }
            }
        }
    }

    private void systemOnce() {
        int a = random.nextInt(6);
        int b = random.nextInt(6);
        int with = 1 << a | 1 << b | random.nextInt(64) & random.nextInt(64) & random.nextInt(64);
        int without = random.nextInt(64) & random.nextInt(64) & ~with;
        int sets = oddOr(Check.sets(with, without));
        int work = oddOr(Check.work(random.nextInt(5), a, b));
        pair.system(sets, work);
    }

    private void askOnce() {
        int e = pick(0, 23);
        int c = pick(0, 5);
        int with = pickSmallSet();
        int without = pickSmallSet();
        switch (random.nextInt(10)) {
            case 0 -> pair.get(e, c);
            case 1 -> pair.parts(e);
            case 2 -> pair.living();
            case 3 -> pair.count(with, without);
            case 4 -> pair.next(with, without, e);
            case 5 -> pair.sum(with, without, c);
            case 6 -> pair.kinds();
            case 7 -> pair.stage(pick(0, 8));
            case 8 -> pair.stages();
            default -> pair.digest();
        }
    }
}
