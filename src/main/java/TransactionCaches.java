public final class TransactionCaches {
    public static final int NONE = -1;
    public static final int CONFLICT = -2;

    private static final int DONE = 0;
    private static final int READING = 0;
    private static final int WRITING = 1;

    private static final int CORES = 4;
    private static final int CELLS = 16;
    private static final int TOP_LEVEL = 3;

    // Level 0 has a row too, always empty, so that a level is its own place among a core's rows.
    private static final int ROWS_OF_CORE = 4;
    private static final int ROWS = 16;
    private static final int ROW_VALUES = 256;

    private final int[] memory = new int[CELLS];
    private final int[] levels = new int[CORES];

    // Kept apart for each level, so that giving a level up leaves those below as they were.
    private final int[] readCells = new int[ROWS];
    private final int[] writtenCells = new int[ROWS];
    private final int[] writtenValues = new int[ROW_VALUES];

    public TransactionCaches() {
        // Java's zeros in new arrays are the state asked for: all cores outside, all cells 0.
    }

    public int begin(int c) {
        if (!isCore(c) || levels[c] >= TOP_LEVEL) {
            return NONE;
        }
        levels[c]++;
        return levels[c];
    }

    public int read(int c, int x) {
        if (!isCore(c) || !isCell(x)) {
            return NONE;
        }
        if (rivalCores(c, x, READING) != 0) {
            return CONFLICT;
        }
        noteReading(c, x);
        return DONE;
    }

    public int sees(int c, int x) {
        if (!isCore(c) || !isCell(x)) {
            return 0;
        }
        return seenValue(c, x);
    }

    public int write(int c, int x, int v) {
        if (!isCore(c) || !isCell(x)) {
            return NONE;
        }
        if (rivalCores(c, x, WRITING) != 0) {
            return CONFLICT;
        }
        store(c, x, v);
        return DONE;
    }

    public int add(int c, int x, int d) {
        if (!isCore(c) || !isCell(x)) {
            return NONE;
        }
        // Whoever is in the way of a reading is in the way of a writing too: one look is enough.
        if (rivalCores(c, x, WRITING) != 0) {
            return CONFLICT;
        }
        int sum = seenValue(c, x) + d;
        noteReading(c, x);
        store(c, x, sum);
        return DONE;
    }

    public int end(int c) {
        if (!isCore(c) || levels[c] == 0) {
            return NONE;
        }
        if (levels[c] == 1) {
            commitWrites(c);
        } else {
            handDown(c);
        }
        dropLevel(c);
        return levels[c];
    }

    public int giveUp(int c) {
        if (!isCore(c) || levels[c] == 0) {
            return NONE;
        }
        dropLevel(c);
        return levels[c];
    }

    public int giveAllUp(int c) {
        if (!isCore(c)) {
            return NONE;
        }
        int given = levels[c];
        for (int i = 0; i < given; i++) {
            dropLevel(c);
        }
        return given;
    }

    public int level(int c) {
        return isCore(c) ? levels[c] : NONE;
    }

    public int committed(int x) {
        return isCell(x) ? memory[x] : 0;
    }

    public int readBy(int c) {
        return isCore(c) ? cellsRead(c) : 0;
    }

    public int writtenBy(int c) {
        return isCore(c) ? cellsWritten(c) : 0;
    }

    public int rivals(int c, int x, int what) {
        if (!isCore(c) || !isCell(x)) {
            return 0;
        }
        if (what != READING && what != WRITING) {
            return 0;
        }
        return rivalCores(c, x, what);
    }

    public int digest() {
        int sum = 0;
        for (int x = 0; x < CELLS; x++) {
            sum += memory[x] * (x + 1);
        }
        return sum;
    }

    private static boolean isCore(int c) {
        return c >= 0 && c < CORES;
    }

    private static boolean isCell(int x) {
        return x >= 0 && x < CELLS;
    }

    private static boolean hasCell(int cells, int x) {
        return (cells & (1 << x)) != 0;
    }

    private int topRow(int c) {
        return c * ROWS_OF_CORE + levels[c];
    }

    private int cellsRead(int c) {
        int cells = 0;
        for (int i = 0; i < ROWS_OF_CORE; i++) {
            cells |= readCells[c * ROWS_OF_CORE + i];
        }
        return cells;
    }

    private int cellsWritten(int c) {
        int cells = 0;
        for (int i = 0; i < ROWS_OF_CORE; i++) {
            cells |= writtenCells[c * ROWS_OF_CORE + i];
        }
        return cells;
    }

    private int rivalCores(int c, int x, int what) {
        int cores = 0;
        for (int other = 0; other < CORES; other++) {
            int inTheWay = cellsWritten(other);
            if (what == WRITING) {
                inTheWay |= cellsRead(other);
            }
            if (other != c && hasCell(inTheWay, x)) {
                cores |= 1 << other;
            }
        }
        return cores;
    }

    private int seenValue(int c, int x) {
        for (int at = levels[c]; at > 0; at--) {
            int row = c * ROWS_OF_CORE + at;
            if (hasCell(writtenCells[row], x)) {
                return writtenValues[row * CELLS + x];
            }
        }
        return memory[x];
    }

    private void noteReading(int c, int x) {
        if (levels[c] > 0) {
            int row = topRow(c);
            readCells[row] |= 1 << x;
        }
    }

    private void store(int c, int x, int v) {
        if (levels[c] == 0) {
            memory[x] = v;
            return;
        }
        int row = topRow(c);
        writtenCells[row] |= 1 << x;
        writtenValues[row * CELLS + x] = v;
    }

    private void commitWrites(int c) {
        int row = topRow(c);
        for (int x = 0; x < CELLS; x++) {
            if (hasCell(writtenCells[row], x)) {
                memory[x] = writtenValues[row * CELLS + x];
            }
        }
    }

    private void handDown(int c) {
        int row = topRow(c);
        int below = row - 1;
        for (int x = 0; x < CELLS; x++) {
            if (hasCell(writtenCells[row], x)) {
                writtenValues[below * CELLS + x] = writtenValues[row * CELLS + x];
            }
        }
        readCells[below] |= readCells[row];
        writtenCells[below] |= writtenCells[row];
    }

    private void dropLevel(int c) {
        int row = topRow(c);
        readCells[row] = 0;
        writtenCells[row] = 0;
        levels[c]--;
    }
}
