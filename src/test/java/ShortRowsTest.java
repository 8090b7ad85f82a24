/**
 * Every row of some few calls, none left out, held against a model that keeps for each core a copy of what it saw, read and
 * wrote at each begin, and goes back to that copy when the level is given up.
 */
public final class ShortRowsTest {
    private static final String[] CALLS = {"begin", "read", "write", "add", "end", "giveUp", "giveAllUp"};
    private static final int KINDS = 7;
    private static final int ROW_OF_ONE = 8;
    private static final int ROW_OF_TWO = 6;
    private static final int CELL = 15;
    private static final Due due = new Due();

    /** One cell is enough: what becomes of a cell hangs on no other cell. */
    private static final class Core {
        final boolean[] read = new boolean[4];
        final boolean[] written = new boolean[4];
        final int[] value = new int[4];
        int level;

        void begin() {
            read[level + 1] = read[level];
            written[level + 1] = written[level];
            value[level + 1] = value[level];
            level++;
        }

        void end() {
            read[level - 1] = level > 1 && read[level];
            written[level - 1] = level > 1 && written[level];
            value[level - 1] = value[level];
            level--;
        }
    }

    private static final class Model {
        final Core[] cores = {new Core(), new Core()};
        int committed;

        int sees(int c) {
            Core core = cores[c];
            return core.written[core.level] ? core.value[core.level] : committed;
        }

        boolean readBy(int c) {
            return cores[c].read[cores[c].level];
        }

        boolean writtenBy(int c) {
            return cores[c].written[cores[c].level];
        }

        int touch(int c, boolean reading, boolean writing, int value) {
            Core core = cores[c];
            boolean conflict = writtenBy(1 - c) || writing && readBy(1 - c);
            if (conflict) {
                return -2;
            }
            if (core.level > 0) {
                core.read[core.level] |= reading;
                core.written[core.level] |= writing;
            }
            if (writing && core.level > 0) {
                core.value[core.level] = value;
            } else if (writing) {
                committed = value;
            }
            return 0;
        }

        int end(int c) {
            Core core = cores[c];
            if (core.level == 0) {
                return -1;
            }
            if (core.level == 1) {
                committed = sees(c);
            }
            core.end();
            return core.level;
        }

        int call(int kind, int c, int value) {
            Core core = cores[c];
            switch (kind) {
                case 0:
                    if (core.level == 3) {
                        return -1;
                    }
                    core.begin();
                    return core.level;
                case 1:
                    return touch(c, true, false, 0);
                case 2:
                    return touch(c, false, true, value);
                case 3:
                    return touch(c, true, true, sees(c) + value);
                case 4:
                    return end(c);
                case 5:
                    return core.level == 0 ? -1 : --core.level;
                default:
                    int given = core.level;
                    core.level = 0;
                    return given;
            }
        }
    }

    private static int call(TransactionCaches t, int kind, int c, int value) {
        switch (kind) {
            case 0:
                return t.begin(c);
            case 1:
                return t.read(c, CELL);
            case 2:
                return t.write(c, CELL, value);
            case 3:
                return t.add(c, CELL, value);
            case 4:
                return t.end(c);
            case 5:
                return t.giveUp(c);
            default:
                return t.giveAllUp(c);
        }
    }

    private static int bit(boolean set, int at) {
        return set ? 1 << at : 0;
    }

    private static void state(TransactionCaches t, Model m) {
        due.is("committed", t.committed(CELL), m.committed);
        due.is("digest", t.digest(), m.committed * (CELL + 1));
        for (int c = 0; c < 2; c++) {
            int other = 1 - c;
            due.is("level", t.level(c), m.cores[c].level);
            due.is("sees", t.sees(c, CELL), m.sees(c));
            due.is("readBy", t.readBy(c), bit(m.readBy(c), CELL));
            due.is("writtenBy", t.writtenBy(c), bit(m.writtenBy(c), CELL));
            due.is("rivals of a reading", t.rivals(c, CELL, 0), bit(m.writtenBy(other), other));
            due.is("rivals of a writing", t.rivals(c, CELL, 1), bit(m.readBy(other) || m.writtenBy(other), other));
        }
    }

    private static String told(int number, int calls, int cores) {
        StringBuilder text = new StringBuilder("on cell " + CELL + ":");
        int rest = number;
        for (int i = 0; i < calls; i++) {
            text.append(' ').append(CALLS[rest % KINDS]).append('(').append(rest / KINDS % cores).append(')');
            rest /= KINDS * cores;
        }
        return text.toString();
    }

    private static void row(int number, int calls, int cores) {
        TransactionCaches t = new TransactionCaches();
        Model m = new Model();
        int rest = number;
        for (int i = 0; i < calls; i++) {
            int kind = rest % KINDS;
            int c = rest / KINDS % cores;
            rest /= KINDS * cores;
            // Each writing has a value of its own, so that it is seen which one counts.
            int value = 1 << i;
            due.is(CALLS[kind], call(t, kind, c, value), m.call(kind, c, value));
        }
        state(t, m);
    }

    private static void allRows(int calls, int cores) {
        int rows = 1;
        for (int i = 0; i < calls; i++) {
            rows *= KINDS * cores;
        }
        for (int number = 0; number < rows && due.allRight(); number++) {
            row(number, calls, cores);
            if (!due.allRight()) {
                System.out.println("it was " + told(number, calls, cores));
            }
        }
    }

    public static void main(String[] args) {
        due.part("a short row");
        allRows(ROW_OF_ONE, 1);
        allRows(ROW_OF_TWO, 2);
        due.finish();
    }
}
