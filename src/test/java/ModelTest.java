import java.util.ArrayList;
import java.util.List;

/**
 * Fixed rows of at most 512 calls held against a plain model: for each core a list of what it did, in order, each entry with
 * its level. Giving up strikes entries out, ending renames their level; all answers are found by going through lists.
 * The class keeps masks and values by level instead, so that a fault is not likely to be in both.
 */
public final class ModelTest {
    private static final int ROWS = 20000;
    private static final int ALL_CALLS = 512;
    private static final int CALLS_FOR_STATE = 4 * (3 + 3 * 16) + 16 + 1;

    private static final class Deed {
        int level;
        final boolean writing;
        final int cell;
        final int value;

        Deed(int level, boolean writing, int cell, int value) {
            this.level = level;
            this.writing = writing;
            this.cell = cell;
            this.value = value;
        }
    }

    private static final class Model {
        final int[] memory = new int[16];
        final int[] level = new int[4];
        final List<List<Deed>> deeds = new ArrayList<>();

        Model() {
            for (int c = 0; c < 4; c++) {
                deeds.add(new ArrayList<>());
            }
        }

        boolean core(int c) {
            return 0 <= c && c <= 3;
        }

        boolean cell(int x) {
            return 0 <= x && x <= 15;
        }

        int sees(int c, int x) {
            if (!core(c) || !cell(x)) {
                return 0;
            }
            int seen = memory[x];
            for (Deed d : deeds.get(c)) {
                if (d.writing && d.cell == x) {
                    seen = d.value;
                }
            }
            return seen;
        }

        int cells(int c, boolean writing) {
            int mask = 0;
            if (core(c)) {
                for (Deed d : deeds.get(c)) {
                    if (d.writing == writing) {
                        mask |= 1 << d.cell;
                    }
                }
            }
            return mask;
        }

        int rivals(int c, int x, int what) {
            int mask = 0;
            if (core(c) && cell(x) && (what == 0 || what == 1)) {
                for (int other = 0; other < 4; other++) {
                    for (Deed d : deeds.get(other)) {
                        if (other != c && d.cell == x && (d.writing || what == 1)) {
                            mask |= 1 << other;
                        }
                    }
                }
            }
            return mask;
        }

        int touch(int c, int x, boolean reading, boolean writing, int value) {
            if (!core(c) || !cell(x)) {
                return -1;
            }
            if (reading && rivals(c, x, 0) != 0 || writing && rivals(c, x, 1) != 0) {
                return -2;
            }
            if (level[c] == 0) {
                if (writing) {
                    memory[x] = value;
                }
                return 0;
            }
            if (reading) {
                deeds.get(c).add(new Deed(level[c], false, x, 0));
            }
            if (writing) {
                deeds.get(c).add(new Deed(level[c], true, x, value));
            }
            return 0;
        }

        int begin(int c) {
            return !core(c) || level[c] == 3 ? -1 : ++level[c];
        }

        int end(int c) {
            if (!core(c) || level[c] == 0) {
                return -1;
            }
            for (Deed d : deeds.get(c)) {
                if (level[c] == 1 && d.writing) {
                    memory[d.cell] = d.value;
                }
                if (d.level == level[c]) {
                    d.level--;
                }
            }
            level[c]--;
            if (level[c] == 0) {
                deeds.get(c).clear();
            }
            return level[c];
        }

        int giveUp(int c) {
            if (!core(c) || level[c] == 0) {
                return -1;
            }
            int given = level[c];
            deeds.get(c).removeIf(d -> d.level == given);
            return --level[c];
        }

        int giveAllUp(int c) {
            if (!core(c)) {
                return -1;
            }
            int given = level[c];
            level[c] = 0;
            deeds.get(c).clear();
            return given;
        }

        int digest() {
            int sum = 0;
            for (int x = 15; x >= 0; x--) {
                for (int i = 0; i <= x; i++) {
                    sum += memory[x];
                }
            }
            return sum;
        }
    }

    private static long state;

    /** Own numbers from a fixed start, so that each run of the test is the same. */
    private static int next(int bound) {
        state = state * 6364136223846793005L + 1442695040888963407L;
        return (int) ((state >>> 33) % bound);
    }

    private static int core() {
        return next(40) == 0 ? (next(2) == 0 ? -1 : 4) : next(4);
    }

    /** Most rows use few cells, so that cores meet. */
    private static int cell(int spread) {
        return next(40) == 0 ? (next(2) == 0 ? -1 : 16) : (next(spread) * 5 + 15) % 16;
    }

    private static int value() {
        return next(4) == 0 ? (next(2) == 0 ? Integer.MAX_VALUE : Integer.MIN_VALUE) : next(7) - 3;
    }

    private static void call(Due due, TransactionCaches t, Model m, int spread) {
        int c = core();
        int x = cell(spread);
        int v = value();
        int kind = next(24);
        if (kind < 4) {
            due.is("begin(" + c + ")", t.begin(c), m.begin(c));
        } else if (kind < 7) {
            due.is("read(" + c + ", " + x + ")", t.read(c, x), m.touch(c, x, true, false, 0));
        } else if (kind < 12) {
            due.is("write(" + c + ", " + x + ", " + v + ")", t.write(c, x, v), m.touch(c, x, false, true, v));
        } else if (kind < 15) {
            due.is("add(" + c + ", " + x + ", " + v + ")", t.add(c, x, v), m.touch(c, x, true, true, m.sees(c, x) + v));
        } else if (kind < 18) {
            due.is("end(" + c + ")", t.end(c), m.end(c));
        } else if (kind < 20) {
            due.is("giveUp(" + c + ")", t.giveUp(c), m.giveUp(c));
        } else if (kind < 21) {
            due.is("giveAllUp(" + c + ")", t.giveAllUp(c), m.giveAllUp(c));
        } else if (kind < 22) {
            due.is("digest()", t.digest(), m.digest());
        } else if (kind < 23) {
            int what = next(4) - 1;
            due.is("rivals(" + c + ", " + x + ", " + what + ")", t.rivals(c, x, what), m.rivals(c, x, what));
        } else {
            due.is("sees(" + c + ", " + x + ")", t.sees(c, x), m.sees(c, x));
        }
    }

    /** Asked once, at the end of a row: nothing is promised of an object after its 512th call. */
    private static void wholeState(Due due, TransactionCaches t, Model m) {
        for (int c = 0; c < 4; c++) {
            due.is("level(" + c + ")", t.level(c), m.level[c]);
            due.is("readBy(" + c + ")", t.readBy(c), m.cells(c, false));
            due.is("writtenBy(" + c + ")", t.writtenBy(c), m.cells(c, true));
            for (int x = 0; x < 16; x++) {
                due.is("sees(" + c + ", " + x + ")", t.sees(c, x), m.sees(c, x));
                due.is("rivals(" + c + ", " + x + ", 0)", t.rivals(c, x, 0), m.rivals(c, x, 0));
                due.is("rivals(" + c + ", " + x + ", 1)", t.rivals(c, x, 1), m.rivals(c, x, 1));
            }
        }
        for (int x = 0; x < 16; x++) {
            due.is("committed(" + x + ")", t.committed(x), m.memory[x]);
        }
        due.is("digest()", t.digest(), m.digest());
    }

    public static void main(String[] args) {
        Due due = new Due();
        for (int row = 0; row < ROWS && due.allRight(); row++) {
            state = row;
            int spread = row % 3 == 0 ? 16 : 2 + row % 5;
            TransactionCaches t = new TransactionCaches();
            Model m = new Model();
            int calls = 1 + row % (ALL_CALLS - CALLS_FOR_STATE);
            for (int i = 0; i < calls && due.allRight(); i++) {
                due.part("row " + row + ", call " + i);
                call(due, t, m, spread);
            }
            due.part("row " + row + ", state after " + calls + " calls");
            wholeState(due, t, m);
        }
        due.finish();
    }
}
