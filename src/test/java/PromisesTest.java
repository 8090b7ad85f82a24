/** A part for each promise of the document: ordinary inputs, the edges it names, wrong inputs. */
public final class PromisesTest {
    private static final int NONE = Edges.NONE;
    private static final int CONFLICT = Edges.CONFLICT;
    private static final int[] NO_CORES = Edges.NO_CORES;
    private static final int[] NO_CELLS = Edges.NO_CELLS;
    private static final int[] VALUES = Edges.VALUES;
    private static final Due due = new Due();

    public static void main(String[] args) {
        newObject();
        begin();
        read();
        readOutside();
        sees();
        write();
        writeOutside();
        add();
        addInConflict();
        end();
        giveUp();
        giveAllUp();
        level();
        committed();
        readBy();
        writtenBy();
        rivals();
        digest();
        refusedChangesNothing();
        givenUpSeesCommitted();
        objectsStandAlone();
        due.finish();
    }

    private static void newObject() {
        due.part("promise 1");
        TransactionCaches t = new TransactionCaches();
        for (int c = 0; c < 4; c++) {
            due.is("level(" + c + ")", t.level(c), 0);
            due.is("readBy(" + c + ")", t.readBy(c), 0);
            due.is("writtenBy(" + c + ")", t.writtenBy(c), 0);
            for (int x = 0; x < 16; x++) {
                due.is("sees(" + c + ", " + x + ")", t.sees(c, x), 0);
                due.is("rivals(" + c + ", " + x + ", 1)", t.rivals(c, x, 1), 0);
            }
        }
        for (int x = 0; x < 16; x++) {
            due.is("committed(" + x + ")", t.committed(x), 0);
        }
        due.is("digest()", t.digest(), 0);
    }

    private static void begin() {
        due.part("promise 2");
        TransactionCaches t = new TransactionCaches();
        for (int c = 0; c < 4; c++) {
            for (int n = 1; n <= 3; n++) {
                due.is("begin(" + c + ")", t.begin(c), n);
            }
            due.is("begin at level 3", t.begin(c), NONE);
            due.is("level after it", t.level(c), 3);
        }
        for (int c : NO_CORES) {
            due.is("begin(" + c + ")", t.begin(c), NONE);
        }
        t.giveUp(1);
        due.is("begin(1) after giveUp", t.begin(1), 3);
        t.end(2);
        due.is("begin(2) after end", t.begin(2), 3);
        t.write(3, 4, 9);
        t.read(3, 5);
        t.giveUp(3);
        due.is("begin(3) again", t.begin(3), 3);
        due.is("a level begun again has nothing written", t.writtenBy(3), 0);
        due.is("a level begun again has nothing read", t.readBy(3), 0);
        due.is("a level begun again sees", t.sees(3, 4), 0);
    }

    private static void read() {
        due.part("promise 3");
        for (int level = 1; level <= 3; level++) {
            TransactionCaches t = Edges.at(1, level);
            due.is("read(1, 0)", t.read(1, 0), 0);
            due.is("read(1, 15)", t.read(1, 15), 0);
            due.is("read(1, 15) again", t.read(1, 15), 0);
            due.is("readBy(1)", t.readBy(1), 0x8001);
            t.begin(2);
            due.is("read(2, 0) of a cell that another has read", t.read(2, 0), 0);
            due.is("readBy(2)", t.readBy(2), 1);
            due.is("write(1, 3, 4)", t.write(1, 3, 4), 0);
            due.is("read(2, 3) of a cell that another has written", t.read(2, 3), CONFLICT);
            due.is("readBy(2) after conflict", t.readBy(2), 1);
            due.is("read(1, 3) of its own", t.read(1, 3), 0);
            due.is("readBy(1) with its own", t.readBy(1), 0x8009);
            for (int c : NO_CORES) {
                due.is("read(" + c + ", 0)", t.read(c, 0), NONE);
                due.is("read(" + c + ", 3)", t.read(c, 3), NONE);
            }
            for (int x : NO_CELLS) {
                due.is("read(1, " + x + ")", t.read(1, x), NONE);
                due.is("read(0, " + x + ")", t.read(0, x), NONE);
            }
            due.is("readBy(1) after wrong inputs", t.readBy(1), 0x8009);
        }
    }

    private static void readOutside() {
        due.part("promise 3, outside");
        TransactionCaches t = Edges.at(1, 1);
        t.write(1, 3, 4);
        due.is("read(0, 3)", t.read(0, 3), CONFLICT);
        due.is("read(0, 2)", t.read(0, 2), 0);
        due.is("readBy(0)", t.readBy(0), 0);
        due.is("a core outside is no rival", t.write(1, 2, 5), 0);
        due.is("begin(0)", t.begin(0), 1);
        due.is("readBy(0) after begin", t.readBy(0), 0);
    }

    private static void sees() {
        due.part("promise 4");
        TransactionCaches t = new TransactionCaches();
        t.write(0, 6, 60);
        t.begin(0);
        t.write(0, 6, 61);
        t.begin(0);
        due.is("sees(0, 6) what was written at the level below", t.sees(0, 6), 61);
        t.write(0, 6, 62);
        t.begin(0);
        due.is("sees(0, 6) at level 3", t.sees(0, 6), 62);
        t.write(0, 6, 63);
        due.is("sees(0, 6) its newest", t.sees(0, 6), 63);
        due.is("sees(1, 6) in conflict", t.sees(1, 6), 60);
        t.begin(1);
        due.is("sees(1, 6) in a transaction", t.sees(1, 6), 60);
        due.is("sees is no reading", t.readBy(1), 0);
        due.is("sees is no reading of its own", t.readBy(0), 0);
        t.write(2, 9, 90);
        due.is("sees(0, 9) what is committed", t.sees(0, 9), 90);
        t.write(0, 6, 0);
        due.is("sees(0, 6) a written 0", t.sees(0, 6), 0);
        for (int c : NO_CORES) {
            due.is("sees(" + c + ", 6)", t.sees(c, 6), 0);
        }
        TransactionCaches full = new TransactionCaches();
        for (int x = 0; x < 16; x++) {
            full.write(0, x, 100 + x);
        }
        for (int x : NO_CELLS) {
            due.is("sees(0, " + x + ")", full.sees(0, x), 0);
        }
    }

    private static void write() {
        due.part("promise 5");
        for (int level = 1; level <= 3; level++) {
            for (int v : VALUES) {
                TransactionCaches t = Edges.at(2, level);
                due.is("write(2, 0, " + v + ")", t.write(2, 0, v), 0);
                due.is("write(2, 15, " + v + ")", t.write(2, 15, v), 0);
                due.is("sees(2, 15)", t.sees(2, 15), v);
                due.is("committed(15)", t.committed(15), 0);
                due.is("writtenBy(2)", t.writtenBy(2), 0x8001);
                due.is("readBy(2): a writing is no reading", t.readBy(2), 0);
                t.begin(3);
                due.is("write(3, 15, 8) that another has written", t.write(3, 15, 8), CONFLICT);
                due.is("sees(3, 15)", t.sees(3, 15), 0);
                due.is("writtenBy(3)", t.writtenBy(3), 0);
                t.read(3, 7);
                due.is("write(2, 7, 8) that another has read", t.write(2, 7, 8), CONFLICT);
                due.is("sees(2, 7)", t.sees(2, 7), 0);
                due.is("write(3, 7, 8) that it alone has read", t.write(3, 7, 8), 0);
                t.read(2, 4);
                t.read(3, 4);
                due.is("write(2, 4, 1) that both have read", t.write(2, 4, 1), CONFLICT);
                due.is("write(3, 4, 1) that both have read", t.write(3, 4, 1), CONFLICT);
            }
        }
        TransactionCaches t = Edges.at(2, 1);
        t.write(2, 5, 50);
        for (int c : NO_CORES) {
            due.is("write(" + c + ", 0, 3)", t.write(c, 0, 3), NONE);
            due.is("write(" + c + ", 5, 3)", t.write(c, 5, 3), NONE);
        }
        for (int x : NO_CELLS) {
            due.is("write(0, " + x + ", 3)", t.write(0, x, 3), NONE);
            due.is("write(2, " + x + ", 3)", t.write(2, x, 3), NONE);
        }
        due.is("digest() after wrong inputs", t.digest(), 0);
        due.is("writtenBy(2) after wrong inputs", t.writtenBy(2), 32);
    }

    private static void writeOutside() {
        due.part("promise 5, outside");
        for (int v : VALUES) {
            TransactionCaches t = new TransactionCaches();
            due.is("write(3, 2, " + v + ")", t.write(3, 2, v), 0);
            due.is("committed(2)", t.committed(2), v);
            due.is("sees(0, 2)", t.sees(0, 2), v);
            due.is("writtenBy(3)", t.writtenBy(3), 0);
            due.is("write(1, 2, 5) after it", t.write(1, 2, 5), 0);
            t.begin(0);
            t.read(0, 2);
            t.write(0, 3, 30);
            due.is("write(3, 2, 6) that another has read", t.write(3, 2, 6), CONFLICT);
            due.is("write(3, 3, 6) that another has written", t.write(3, 3, 6), CONFLICT);
            due.is("committed(2) after conflict", t.committed(2), 5);
            due.is("committed(3) after conflict", t.committed(3), 0);
        }
    }

    private static void add() {
        due.part("promise 6");
        TransactionCaches t = new TransactionCaches();
        due.is("add(0, 1, 5) outside", t.add(0, 1, 5), 0);
        due.is("committed(1)", t.committed(1), 5);
        due.is("readBy(0) outside", t.readBy(0), 0);
        due.is("writtenBy(0) outside", t.writtenBy(0), 0);
        t.begin(0);
        due.is("add(0, 1, -7)", t.add(0, 1, -7), 0);
        due.is("sees(0, 1)", t.sees(0, 1), -2);
        due.is("readBy(0)", t.readBy(0), 2);
        due.is("writtenBy(0)", t.writtenBy(0), 2);
        due.is("committed(1)", t.committed(1), 5);
        t.begin(0);
        due.is("add(0, 1, 100) on what the level below wrote", t.add(0, 1, 100), 0);
        due.is("sees(0, 1)", t.sees(0, 1), 98);
        due.is("add(0, 2, 0)", t.add(0, 2, 0), 0);
        due.is("readBy(0) after adding 0", t.readBy(0), 6);
        due.is("writtenBy(0) after adding 0", t.writtenBy(0), 6);
        t.giveUp(0);
        due.is("sees(0, 1) after giveUp", t.sees(0, 1), -2);
        due.is("readBy(0) after giveUp", t.readBy(0), 2);
        t.write(1, 8, Integer.MAX_VALUE);
        due.is("add(0, 8, 1) wraps", t.add(0, 8, 1), 0);
        due.is("sees(0, 8)", t.sees(0, 8), Integer.MIN_VALUE);
        due.is("add(0, 8, -1) wraps back", t.add(0, 8, -1), 0);
        due.is("sees(0, 8)", t.sees(0, 8), Integer.MAX_VALUE);
        due.is("add(1, 15, MIN) outside", t.add(1, 15, Integer.MIN_VALUE), 0);
        due.is("add(1, 15, MIN) outside wraps", t.add(1, 15, Integer.MIN_VALUE), 0);
        due.is("committed(15)", t.committed(15), 0);
        for (int c : NO_CORES) {
            due.is("add(" + c + ", 1, 1)", t.add(c, 1, 1), NONE);
        }
        for (int x : NO_CELLS) {
            due.is("add(0, " + x + ", 1)", t.add(0, x, 1), NONE);
            due.is("add(3, " + x + ", 1)", t.add(3, x, 1), NONE);
        }
        due.is("readBy(0) after wrong inputs", t.readBy(0), 0x102);
        due.is("writtenBy(0) after wrong inputs", t.writtenBy(0), 0x102);
    }

    private static void addInConflict() {
        due.part("promise 6, in conflict");
        TransactionCaches t = Edges.at(0, 1);
        t.begin(1);
        t.read(0, 4);
        t.write(0, 5, 50);
        due.is("add(1, 4, 1): the reading alone would be free", t.add(1, 4, 1), CONFLICT);
        due.is("add(1, 5, 1)", t.add(1, 5, 1), CONFLICT);
        due.is("readBy(1)", t.readBy(1), 0);
        due.is("writtenBy(1)", t.writtenBy(1), 0);
        due.is("sees(1, 4)", t.sees(1, 4), 0);
        due.is("add(2, 4, 1) outside", t.add(2, 4, 1), CONFLICT);
        due.is("add(2, 5, 1) outside", t.add(2, 5, 1), CONFLICT);
        due.is("committed(4)", t.committed(4), 0);
        t.add(1, 6, 1);
        due.is("read(0, 6) that another added to", t.read(0, 6), CONFLICT);
        due.is("write(0, 6, 1) that another added to", t.write(0, 6, 1), CONFLICT);
    }

    private static void end() {
        due.part("promise 7");
        TransactionCaches t = Edges.at(3, 3);
        t.read(3, 0);
        t.write(3, 1, 11);
        due.is("end(3)", t.end(3), 2);
        due.is("readBy(3)", t.readBy(3), 1);
        due.is("writtenBy(3)", t.writtenBy(3), 2);
        due.is("sees(3, 1)", t.sees(3, 1), 11);
        due.is("committed(1)", t.committed(1), 0);
        due.is("read(0, 1)", t.read(0, 1), CONFLICT);
        t.write(3, 1, 12);
        t.write(3, 2, 0);
        due.is("end(3)", t.end(3), 1);
        due.is("sees(3, 1) the newer one", t.sees(3, 1), 12);
        due.is("committed(1)", t.committed(1), 0);
        due.is("write(0, 0, 1)", t.write(0, 0, 1), CONFLICT);
        due.is("end(3)", t.end(3), 0);
        due.is("committed(1)", t.committed(1), 12);
        due.is("committed(2)", t.committed(2), 0);
        due.is("readBy(3)", t.readBy(3), 0);
        due.is("writtenBy(3)", t.writtenBy(3), 0);
        due.is("write(0, 0, 1) after the end", t.write(0, 0, 1), 0);
        due.is("write(0, 1, 2) after the end", t.write(0, 1, 2), 0);
        due.is("end(3) outside", t.end(3), NONE);
        due.is("level(3)", t.level(3), 0);
        for (int c : NO_CORES) {
            due.is("end(" + c + ")", t.end(c), NONE);
        }
        endKeepsTheLevelBelow();
        endCommitsZero();
        endHandsEveryCellDown();
    }

    private static void endKeepsTheLevelBelow() {
        TransactionCaches t = Edges.at(0, 1);
        t.write(0, 3, 30);
        t.read(0, 4);
        t.begin(0);
        t.write(0, 5, 50);
        t.read(0, 6);
        due.is("end(0)", t.end(0), 1);
        due.is("writtenBy(0) of both levels", t.writtenBy(0), 8 + 32);
        due.is("readBy(0) of both levels", t.readBy(0), 16 + 64);
        due.is("sees(0, 3)", t.sees(0, 3), 30);
        t.begin(0);
        t.giveUp(0);
        due.is("writtenBy(0): what was ended belongs below", t.writtenBy(0), 8 + 32);
        due.is("readBy(0): what was ended belongs below", t.readBy(0), 16 + 64);
        due.is("giveUp(0)", t.giveUp(0), 0);
        due.is("committed(5)", t.committed(5), 0);
        due.is("digest()", t.digest(), 0);
    }

    private static void endCommitsZero() {
        TransactionCaches t = new TransactionCaches();
        for (int x = 0; x < 16; x++) {
            t.write(0, x, 7);
        }
        t.begin(0);
        t.write(0, 0, 0);
        t.write(0, 15, 0);
        t.end(0);
        due.is("committed(0): a written 0 counts", t.committed(0), 0);
        due.is("committed(15): a written 0 counts", t.committed(15), 0);
        due.is("committed(7): not written", t.committed(7), 7);
    }

    private static void endHandsEveryCellDown() {
        TransactionCaches t = Edges.at(1, 3);
        for (int x = 0; x < 16; x++) {
            t.write(1, x, 200 + x);
        }
        for (int level = 2; level >= 0; level--) {
            due.is("end(1)", t.end(1), level);
            for (int x = 0; x < 16; x++) {
                due.is("sees(1, " + x + ") at level " + level, t.sees(1, x), 200 + x);
                due.is("committed(" + x + ") at level " + level, t.committed(x), level == 0 ? 200 + x : 0);
            }
        }
    }

    private static void giveUp() {
        due.part("promise 8");
        TransactionCaches t = new TransactionCaches();
        t.write(0, 1, 10);
        t.begin(0);
        t.read(0, 0);
        t.write(0, 1, 11);
        t.begin(0);
        t.read(0, 0);
        t.read(0, 2);
        t.write(0, 1, 12);
        t.write(0, 3, 30);
        t.begin(0);
        t.write(0, 1, 13);
        t.read(0, 4);
        due.is("giveUp(0)", t.giveUp(0), 2);
        due.is("sees(0, 1)", t.sees(0, 1), 12);
        due.is("readBy(0)", t.readBy(0), 5);
        due.is("writtenBy(0)", t.writtenBy(0), 10);
        due.is("giveUp(0)", t.giveUp(0), 1);
        due.is("sees(0, 1)", t.sees(0, 1), 11);
        due.is("sees(0, 3)", t.sees(0, 3), 0);
        due.is("readBy(0) still at the level below", t.readBy(0), 1);
        due.is("writtenBy(0) still at the level below", t.writtenBy(0), 2);
        due.is("write(1, 0, 1)", t.write(1, 0, 1), CONFLICT);
        due.is("write(1, 3, 1)", t.write(1, 3, 1), 0);
        due.is("giveUp(0)", t.giveUp(0), 0);
        due.is("sees(0, 1)", t.sees(0, 1), 10);
        due.is("committed(1)", t.committed(1), 10);
        due.is("readBy(0)", t.readBy(0), 0);
        due.is("writtenBy(0)", t.writtenBy(0), 0);
        due.is("giveUp(0) outside", t.giveUp(0), NONE);
        due.is("level(0)", t.level(0), 0);
        for (int c : NO_CORES) {
            due.is("giveUp(" + c + ")", t.giveUp(c), NONE);
        }
    }

    private static void giveAllUp() {
        due.part("promise 9");
        for (int c = 0; c < 4; c++) {
            for (int level = 0; level <= 3; level++) {
                TransactionCaches t = new TransactionCaches();
                int other = (c + 1) % 4;
                t.begin(other);
                t.write(other, 14, 9);
                for (int n = 1; n <= level; n++) {
                    t.begin(c);
                    t.write(c, n, n);
                    t.read(c, n + 4);
                    t.write(c, 0, n);
                }
                due.is("giveAllUp(" + c + ") at level " + level, t.giveAllUp(c), level);
                due.is("level", t.level(c), 0);
                due.is("readBy", t.readBy(c), 0);
                due.is("writtenBy", t.writtenBy(c), 0);
                due.is("sees", t.sees(c, 0), 0);
                due.is("digest()", t.digest(), 0);
                due.is("the other core's level", t.level(other), 1);
                due.is("the other core's writing", t.sees(other, 14), 9);
                due.is("giveAllUp outside", t.giveAllUp(c), 0);
                due.is("begin after it", t.begin(c), 1);
                due.is("writtenBy after begin", t.writtenBy(c), 0);
            }
        }
        TransactionCaches t = Edges.at(0, 2);
        for (int c : NO_CORES) {
            due.is("giveAllUp(" + c + ")", t.giveAllUp(c), NONE);
        }
        due.is("level(0) after wrong inputs", t.level(0), 2);
    }

    private static void level() {
        due.part("promise 10");
        TransactionCaches t = new TransactionCaches();
        for (int c = 0; c < 4; c++) {
            for (int i = 0; i < c; i++) {
                t.begin(c);
            }
        }
        for (int c = 0; c < 4; c++) {
            due.is("level(" + c + ")", t.level(c), c);
        }
        t.end(3);
        due.is("level(3) after end", t.level(3), 2);
        t.giveUp(2);
        due.is("level(2) after giveUp", t.level(2), 1);
        for (int c : NO_CORES) {
            due.is("level(" + c + ")", t.level(c), NONE);
        }
    }

    private static void committed() {
        due.part("promise 11");
        TransactionCaches t = new TransactionCaches();
        for (int x = 0; x < 16; x++) {
            t.write(x % 4, x, x * 3 - 20);
        }
        t.begin(1);
        t.write(1, 5, 500);
        for (int x = 0; x < 16; x++) {
            due.is("committed(" + x + ")", t.committed(x), x * 3 - 20);
        }
        for (int x : NO_CELLS) {
            due.is("committed(" + x + ")", t.committed(x), 0);
        }
        t.end(1);
        due.is("committed(5)", t.committed(5), 500);
    }

    private static void readBy() {
        due.part("promise 12");
        TransactionCaches t = Edges.at(2, 1);
        for (int x = 0; x < 16; x++) {
            if (x == 6 || x == 11) {
                t.begin(2);
            }
            t.read(2, x);
            due.is("readBy(2) up to " + x, t.readBy(2), (2 << x) - 1);
        }
        due.is("writtenBy(2)", t.writtenBy(2), 0);
        due.is("readBy(1)", t.readBy(1), 0);
        for (int c : NO_CORES) {
            due.is("readBy(" + c + ")", t.readBy(c), 0);
        }
        t.giveUp(2);
        due.is("readBy(2)", t.readBy(2), (1 << 11) - 1);
        t.giveUp(2);
        due.is("readBy(2)", t.readBy(2), (1 << 6) - 1);
    }

    private static void writtenBy() {
        due.part("promise 13");
        TransactionCaches t = Edges.at(1, 1);
        for (int x = 0; x < 16; x++) {
            if (x == 6 || x == 11) {
                t.begin(1);
            }
            t.write(1, x, 0);
            due.is("writtenBy(1) up to " + x, t.writtenBy(1), (2 << x) - 1);
        }
        due.is("readBy(1)", t.readBy(1), 0);
        due.is("writtenBy(2)", t.writtenBy(2), 0);
        for (int c : NO_CORES) {
            due.is("writtenBy(" + c + ")", t.writtenBy(c), 0);
        }
        t.giveUp(1);
        due.is("writtenBy(1)", t.writtenBy(1), (1 << 11) - 1);
        t.giveUp(1);
        due.is("writtenBy(1)", t.writtenBy(1), (1 << 6) - 1);
    }

    private static void rivals() {
        due.part("promise 14");
        TransactionCaches t = Edges.at(0, 3);
        t.begin(1);
        t.begin(3);
        t.read(0, 2);
        t.read(1, 2);
        t.read(3, 2);
        t.write(1, 9, 1);
        t.add(3, 0, 1);
        for (int c = 0; c < 4; c++) {
            int others = 0b1011 & ~(1 << c);
            due.is("rivals(" + c + ", 2, 0): readers", t.rivals(c, 2, 0), 0);
            due.is("rivals(" + c + ", 2, 1): readers", t.rivals(c, 2, 1), others);
            due.is("rivals(" + c + ", 9, 0)", t.rivals(c, 9, 0), c == 1 ? 0 : 2);
            due.is("rivals(" + c + ", 9, 1)", t.rivals(c, 9, 1), c == 1 ? 0 : 2);
            due.is("rivals(" + c + ", 0, 0)", t.rivals(c, 0, 0), c == 3 ? 0 : 8);
            due.is("rivals(" + c + ", 0, 1)", t.rivals(c, 0, 1), c == 3 ? 0 : 8);
            due.is("rivals(" + c + ", 15, 1): nobody", t.rivals(c, 15, 1), 0);
        }
        for (int what : Edges.NO_WHATS) {
            due.is("rivals(2, 2, " + what + ")", t.rivals(2, 2, what), 0);
            due.is("rivals(2, 9, " + what + ")", t.rivals(2, 9, what), 0);
        }
        for (int c : NO_CORES) {
            due.is("rivals(" + c + ", 9, 0)", t.rivals(c, 9, 0), 0);
            due.is("rivals(" + c + ", 2, 1)", t.rivals(c, 2, 1), 0);
        }
        for (int x : NO_CELLS) {
            due.is("rivals(2, " + x + ", 0)", t.rivals(2, x, 0), 0);
            due.is("rivals(2, " + x + ", 1)", t.rivals(2, x, 1), 0);
        }
        due.is("rivals is no reading", t.readBy(0), 4);
    }

    private static void digest() {
        due.part("promise 15");
        for (int x = 0; x < 16; x++) {
            for (int v : VALUES) {
                TransactionCaches t = new TransactionCaches();
                t.write(0, x, v);
                due.is("digest() with " + v + " in " + x, t.digest(), v * (x + 1));
            }
        }
        TransactionCaches t = new TransactionCaches();
        int want = 0;
        for (int x = 0; x < 16; x++) {
            t.write(2, x, Integer.MAX_VALUE - x * x);
            want += (Integer.MAX_VALUE - x * x) * (x + 1);
        }
        due.is("digest() wraps", t.digest(), want);
        t.begin(0);
        t.write(0, 4, 0);
        due.is("digest() is of what is committed", t.digest(), want);
        t.end(0);
        due.is("digest() after end", t.digest(), want - (Integer.MAX_VALUE - 16) * 5);
    }

    private static void refusedChangesNothing() {
        due.part("promise 16, refused");
        TransactionCaches t = new TransactionCaches();
        t.write(0, 1, 10);
        for (int i = 0; i < 3; i++) {
            t.begin(0);
        }
        t.begin(1);
        t.write(0, 1, 11);
        t.read(0, 2);
        t.write(1, 3, 30);
        int[] answers = {
            t.begin(0), t.begin(4), t.read(1, 1), t.read(2, 1), t.read(0, 16), t.write(1, 1, 5), t.write(1, 2, 5),
            t.write(2, 2, 5), t.write(0, 3, 5), t.write(0, -1, 5), t.add(1, 1, 5), t.add(1, 2, 5), t.add(2, 1, 5),
            t.add(0, 3, 5), t.add(4, 3, 5), t.end(2), t.end(-1), t.giveUp(3), t.giveUp(4), t.giveAllUp(-1)};
        for (int i = 0; i < answers.length; i++) {
            due.is("refusal " + i + " is below 0", answers[i] < 0 ? 1 : 0, 1);
        }
        int[] levels = {3, 1, 0, 0};
        int[] read = {4, 0, 0, 0};
        int[] written = {2, 8, 0, 0};
        for (int c = 0; c < 4; c++) {
            due.is("level(" + c + ")", t.level(c), levels[c]);
            due.is("readBy(" + c + ")", t.readBy(c), read[c]);
            due.is("writtenBy(" + c + ")", t.writtenBy(c), written[c]);
        }
        due.is("sees(0, 1)", t.sees(0, 1), 11);
        due.is("sees(1, 3)", t.sees(1, 3), 30);
        due.is("sees(1, 1)", t.sees(1, 1), 10);
        due.is("digest()", t.digest(), 20);
    }

    private static void givenUpSeesCommitted() {
        due.part("promise 16, given up");
        TransactionCaches t = new TransactionCaches();
        t.write(1, 5, 50);
        t.begin(0);
        t.write(0, 6, 60);
        t.begin(0);
        t.write(0, 6, 61);
        t.write(1, 5, 51);
        t.begin(2);
        t.write(2, 7, 70);
        t.end(2);
        due.is("sees(0, 5) what was committed since", t.sees(0, 5), 51);
        due.is("giveUp(0)", t.giveUp(0), 1);
        due.is("sees(0, 5) after giveUp", t.sees(0, 5), 51);
        due.is("sees(0, 7) after giveUp", t.sees(0, 7), 70);
        due.is("sees(0, 6): written at a level that is left", t.sees(0, 6), 60);
        t.begin(0);
        t.write(0, 8, 80);
        t.giveUp(0);
        due.is("write(3, 8, 81) after giveUp", t.write(3, 8, 81), 0);
        due.is("sees(0, 8) written once, given up, committed by another", t.sees(0, 8), 81);
        t.write(3, 9, 90);
        due.is("giveAllUp(0)", t.giveAllUp(0), 1);
        due.is("sees(0, 9) after giveAllUp", t.sees(0, 9), 90);
        due.is("sees(0, 6) after giveAllUp", t.sees(0, 6), 0);
        due.is("sees(0, 5) after giveAllUp", t.sees(0, 5), 51);
    }

    private static void objectsStandAlone() {
        due.part("promise 1, two objects");
        TransactionCaches one = Edges.at(0, 1);
        one.write(0, 1, 5);
        one.write(1, 2, 5);
        TransactionCaches two = new TransactionCaches();
        due.is("level(0) of another object", two.level(0), 0);
        due.is("digest() of another object", two.digest(), 0);
        due.is("write(1, 1, 1) of another object", two.write(1, 1, 1), 0);
        due.is("committed(1) of the first", one.committed(1), 0);
    }
}
