/** The inputs just outside of what the document allows, and objects in the states that its edges need. */
final class Edges {
    static final int NONE = -1;
    static final int CONFLICT = -2;
    static final int MIN = Integer.MIN_VALUE;
    static final int MAX = Integer.MAX_VALUE;
    static final int ALL_CELLS = 0xFFFF;

    static final int[] NO_CORES = {-1, 4, 5, 16, 32, -4, MIN, MAX};
    static final int[] NO_CELLS = {-1, 16, 17, 32, 64, -16, MIN, MAX};
    static final int[] NO_WHATS = {-1, 2, 3, MIN, MAX};
    static final int[] VALUES = {0, 1, -1, -2, 7, MIN, MAX};

    private Edges() {
    }

    static TransactionCaches at(int core, int level) {
        return raised(new TransactionCaches(), core, level);
    }

    /** With another number than 0 committed in each cell, so that an answer of 0 is not there by accident. */
    static TransactionCaches filled() {
        TransactionCaches t = new TransactionCaches();
        for (int x = 0; x < 16; x++) {
            t.write(0, x, filling(x));
        }
        return t;
    }

    static int filling(int x) {
        return 100 + x;
    }

    static TransactionCaches filledAt(int core, int level) {
        return raised(filled(), core, level);
    }

    private static TransactionCaches raised(TransactionCaches t, int core, int level) {
        for (int i = 0; i < level; i++) {
            t.begin(core);
        }
        return t;
    }

    static void readAll(TransactionCaches t, int core) {
        for (int x = 0; x < 16; x++) {
            t.read(core, x);
        }
    }

    static void writeAll(TransactionCaches t, int core, int first) {
        for (int x = 0; x < 16; x++) {
            t.write(core, x, first + x);
        }
    }
}
