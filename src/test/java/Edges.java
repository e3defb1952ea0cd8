/** Arguments outside the document's ranges: just outside on either side, far outside, and some whose low bits pass. */
final class Edges {
    static final int MIN = Integer.MIN_VALUE;
    static final int MAX = Integer.MAX_VALUE;

    static final int[] NOT_ENTITIES = {-1, 24, 25, 32, 256, -24, MIN, MIN + 23, MAX};
    static final int[] NOT_COMPONENTS = {-1, 6, 7, 8, 31, 32, 37, -32, MIN, MIN + 5, MAX};
    static final int[] NOT_SETS = {-1, 64, 65, 127, 128, 256, -64, MIN, MIN + 63, MAX};
    static final int[] NOT_SET_PAIRS = {-1, 4096, 4097, 4096 + 63, 8191, 1 << 30, -64, -4095, MIN, MIN + 63, MAX};

    private Edges() {
    }
}
