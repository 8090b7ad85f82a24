/** The edges in "What it is" and "Terms": a test of its own for each sentence, which it bears as its part's name. */
public final class TermsEdgesTest {
    private static final int CONFLICT = Edges.CONFLICT;
    private static final int NONE = Edges.NONE;
    private static final Due due = new Due();

    public static void main(String[] args) {
        theLastCallThatCounts();
        laterCallsEnd();
        coresAndCells();
        cellsAreInts();
        outsideOrLevelOneToThree();
        levelsAreWithinOneAnother();
        seesWhatItWroteAtAnyLevel();
        seesWhatIsCommittedOtherwise();
        writeOutsideIsCommittedAtOnce();
        endingLevelOneCommitsAll();
        endingLevelTwoOrThreeHandsDown();
        giveUpSeesAsBefore();
        giveUpForgetsReadAndWritten();
        giveUpLeavesTheLevelsBelow();
        readAndWrittenByAtAnyLevel();
        readAndWrittenByTwice();
        readAndWrittenByOnlyInTheTransaction();
        readingInConflict();
        writingInConflict();
        inConflictIsNotDone();
        due.finish();
    }

    private static void theLastCallThatCounts() {
        due.part("An object is used for at most 512 calls");
        for (int last = 0; last < 3; last++) {
            TransactionCaches t = new TransactionCaches();
            t.begin(3);
            for (int i = 2; i < 512; i++) {
                t.add(3, 15, i);
            }
            int sum = 511 * 512 / 2 - 1;
            if (last == 0) {
                due.is("call 512, sees(3, 15)", t.sees(3, 15), sum);
            } else if (last == 1) {
                due.is("call 512, writtenBy(3)", t.writtenBy(3), 1 << 15);
            } else {
                due.is("call 512, end(3)", t.end(3), 0);
            }
        }
        TransactionCaches t = new TransactionCaches();
        for (int i = 1; i < 512; i++) {
            due.is("call " + i, i % 2 == 1 ? t.begin(2) : t.giveUp(2), i % 2);
        }
        due.is("call 512", t.giveUp(2), 0);
    }

    /** A call that threw would end this program with a code other than 0. */
    private static void laterCallsEnd() {
        due.part("what later calls answer is free");
        TransactionCaches t = Edges.at(0, 3);
        int[] odd = {0, 3, 15, -1, 4, 16, 31, 32, Edges.MIN, Edges.MAX};
        int ended = 0;
        for (int round = 0; round < 20; round++) {
            for (int c : odd) {
                for (int x : odd) {
                    t.begin(c);
                    t.read(c, x);
                    t.write(c, x, x);
                    t.add(c, x, x);
                    t.sees(c, x);
                    t.rivals(c, x, x);
                    t.committed(x);
                    ended += 7;
                }
                t.readBy(c);
                t.writtenBy(c);
                t.level(c);
                t.digest();
                t.end(c);
                t.giveUp(c);
                t.giveAllUp(c);
                ended += 7;
            }
        }
        due.is("later calls that end without throwing", ended, 20 * 10 * 11 * 7);
    }

    private static void coresAndCells() {
        due.part("There are CORES 0 .. 3 and memory CELLS 0 .. 15");
        TransactionCaches t = new TransactionCaches();
        for (int c = 0; c < 4; c++) {
            for (int x = 4 * c; x < 4 * c + 4; x++) {
                if (x < 4 * c + 3) {
                    due.is("begin(" + c + ")", t.begin(c), x - 4 * c + 1);
                }
                due.is("write(" + c + ", " + x + ")", t.write(c, x, 50 + x), 0);
            }
        }
        for (int c = 0; c < 4; c++) {
            for (int x = 0; x < 16; x++) {
                due.is("sees(" + c + ", " + x + ")", t.sees(c, x), x / 4 == c ? 50 + x : 0);
            }
            due.is("writtenBy(" + c + ")", t.writtenBy(c), 0xF << 4 * c);
        }
        due.is("begin(-1)", t.begin(-1), NONE);
        due.is("begin(4)", t.begin(4), NONE);
        due.is("write(0, -1, 1)", t.write(0, -1, 1), NONE);
        due.is("write(3, 16, 1)", t.write(3, 16, 1), NONE);
    }

    private static void cellsAreInts() {
        due.part("CELLS 0 .. 15 (ints, all 0 at first)");
        for (int x = 0; x < 16; x++) {
            for (int v : Edges.VALUES) {
                TransactionCaches t = new TransactionCaches();
                due.is("committed(" + x + ") at first", t.committed(x), 0);
                t.begin(x % 4);
                t.write(x % 4, x, v);
                due.is("sees(" + x % 4 + ", " + x + ")", t.sees(x % 4, x), v);
                t.end(x % 4);
                due.is("committed(" + x + ")", t.committed(x), v);
            }
        }
    }

    private static void outsideOrLevelOneToThree() {
        due.part("A core is OUTSIDE, or in a TRANSACTION of LEVEL 1, 2 or 3");
        for (int c = 0; c < 4; c++) {
            TransactionCaches t = new TransactionCaches();
            for (int step = 0; step < 6; step++) {
                int level = step < 3 ? step : 3;
                due.is("level(" + c + ") after " + step + " times begin", t.level(c), level);
                t.begin(c);
            }
            for (int step = 0; step < 6; step++) {
                int level = step < 3 ? 3 - step : 0;
                due.is("level(" + c + ") after " + step + " times end", t.level(c), level);
                t.end(c);
            }
        }
    }

    private static void levelsAreWithinOneAnother() {
        due.part("a transaction of level 2 or 3 was begun within one of the level below");
        TransactionCaches t = new TransactionCaches();
        for (int n = 1; n <= 3; n++) {
            due.is("begin(1)", t.begin(1), n);
            due.is("write(1, " + n + ")", t.write(1, n, n), 0);
        }
        for (int n = 2; n >= 0; n--) {
            due.is("giveUp(1)", t.giveUp(1), n);
            due.is("writtenBy(1): the levels that are left", t.writtenBy(1), (2 << n) - 2);
        }
        due.is("begin(1): level 1 again", t.begin(1), 1);
    }

    private static void seesWhatItWroteAtAnyLevel() {
        due.part("A core sees, at any time, what it wrote in its transaction (at any level)");
        for (int wroteAt = 1; wroteAt <= 3; wroteAt++) {
            for (int v : Edges.VALUES) {
                TransactionCaches t = Edges.filledAt(2, wroteAt);
                t.write(2, 0, v);
                t.write(2, 15, v);
                for (int level = wroteAt; level <= 3; level++) {
                    due.is("sees(2, 0) at level " + level, t.sees(2, 0), v);
                    due.is("sees(2, 15) at level " + level, t.sees(2, 15), v);
                    t.begin(2);
                }
                for (int level = 3; level > 0; level--) {
                    due.is("sees(2, 15) at level " + level + " on the way down", t.sees(2, 15), v);
                    t.end(2);
                }
                due.is("sees(2, 15) outside again", t.sees(2, 15), v);
            }
        }
        TransactionCaches t = Edges.at(2, 1);
        t.write(2, 15, 1);
        t.begin(2);
        t.write(2, 15, 2);
        t.begin(2);
        due.is("sees(2, 15): level 2 wrote after level 1", t.sees(2, 15), 2);
        t.write(2, 15, 3);
        t.write(2, 15, 4);
        due.is("sees(2, 15): level 3 wrote twice", t.sees(2, 15), 4);
        t.giveUp(2);
        t.giveUp(2);
        t.write(2, 15, 5);
        t.begin(2);
        due.is("sees(2, 15): level 1 wrote after level 3 was given up", t.sees(2, 15), 5);
    }

    private static void seesWhatIsCommittedOtherwise() {
        due.part("and, of cells that it did not write, what is COMMITTED");
        for (int level = 0; level <= 3; level++) {
            TransactionCaches t = Edges.filledAt(1, level);
            for (int x = 0; x < 16; x++) {
                due.is("sees(1, " + x + ") at level " + level, t.sees(1, x), Edges.filling(x));
            }
            t.begin(0);
            t.write(0, 4, 40);
            due.is("sees(1, 4): written by another, not committed", t.sees(1, 4), Edges.filling(4));
            t.end(0);
            due.is("sees(1, 4): committed by another", t.sees(1, 4), 40);
            t.write(3, 15, 150);
            due.is("sees(1, 15): committed by another, outside", t.sees(1, 15), 150);
            t.read(1, 3);
            due.is("sees(1, 3): read, not written", t.sees(1, 3), Edges.filling(3));
        }
    }

    private static void writeOutsideIsCommittedAtOnce() {
        due.part("A write by a core that is outside is committed at once.");
        for (int c = 0; c < 4; c++) {
            TransactionCaches t = Edges.at((c + 1) % 4, 3);
            for (int x = 0; x < 16; x++) {
                due.is("write(" + c + ", " + x + ")", t.write(c, x, x - 8), 0);
                due.is("committed(" + x + ")", t.committed(x), x - 8);
                due.is("sees of another at level 3", t.sees((c + 1) % 4, x), x - 8);
            }
            due.is("writtenBy(" + c + ")", t.writtenBy(c), 0);
            t.begin(c);
            due.is("writtenBy(" + c + ") after begin", t.writtenBy(c), 0);
            t.giveUp(c);
            due.is("committed(15) after giving up", t.committed(15), 7);
            due.is("add(" + c + ", 15, 1)", t.add(c, 15, 1), 0);
            due.is("committed(15) after add", t.committed(15), 8);
        }
    }

    private static void endingLevelOneCommitsAll() {
        due.part("Ending level 1 commits all that the transaction wrote");
        for (int c = 0; c < 4; c++) {
            TransactionCaches full = Edges.filledAt(c, 1);
            Edges.writeAll(full, c, -8);
            TransactionCaches empty = Edges.filledAt(c, 1);
            Edges.readAll(empty, c);
            due.is("end(" + c + ") with all written", full.end(c), 0);
            due.is("end(" + c + ") with none written", empty.end(c), 0);
            for (int x = 0; x < 16; x++) {
                due.is("committed(" + x + "): all written", full.committed(x), x - 8);
                due.is("committed(" + x + "): none written", empty.committed(x), Edges.filling(x));
            }
        }
        for (int only = 0; only < 16; only++) {
            TransactionCaches t = Edges.filledAt(0, 3);
            t.write(0, only, 0);
            t.end(0);
            t.end(0);
            t.end(0);
            for (int x = 0; x < 16; x++) {
                due.is("committed(" + x + "): " + only + " written", t.committed(x), x == only ? 0 : Edges.filling(x));
            }
        }
    }

    private static void endingLevelTwoOrThreeHandsDown() {
        due.part("ending level 2 or 3 makes what was read and written at that level belong to the level below");
        for (int level = 2; level <= 3; level++) {
            TransactionCaches full = Edges.filledAt(3, level - 1);
            Edges.writeAll(full, 3, 30);
            full.begin(3);
            Edges.readAll(full, 3);
            Edges.writeAll(full, 3, 60);
            due.is("end(3) at level " + level, full.end(3), level - 1);
            for (int x = 0; x < 16; x++) {
                due.is("sees(3, " + x + ")", full.sees(3, x), 60 + x);
                due.is("committed(" + x + ")", full.committed(x), Edges.filling(x));
            }
            due.is("readBy(3)", full.readBy(3), Edges.ALL_CELLS);
            due.is("writtenBy(3)", full.writtenBy(3), Edges.ALL_CELLS);
            full.giveUp(3);
            due.is("sees(3, 7): the level below was given up", full.sees(3, 7), Edges.filling(7));
            due.is("readBy(3): the level below was given up", full.readBy(3), 0);
            due.is("writtenBy(3): the level below was given up", full.writtenBy(3), 0);

            TransactionCaches empty = Edges.filledAt(3, level - 1);
            empty.write(3, 0, 5);
            empty.read(3, 15);
            empty.begin(3);
            due.is("end(3) of an empty level " + level, empty.end(3), level - 1);
            due.is("sees(3, 0)", empty.sees(3, 0), 5);
            due.is("readBy(3)", empty.readBy(3), 1 << 15);
            due.is("writtenBy(3)", empty.writtenBy(3), 1);
        }
    }

    private static void giveUpSeesAsBefore() {
        due.part("Giving a level up makes the core see every cell as before it began that level");
        for (int level = 1; level <= 3; level++) {
            TransactionCaches t = Edges.filledAt(1, level - 1);
            if (level > 1) {
                t.write(1, 0, 0);
                t.write(1, 15, -15);
            }
            int first = t.sees(1, 0);
            int last = t.sees(1, 15);
            t.begin(1);
            Edges.writeAll(t, 1, 70);
            due.is("giveUp(1) at level " + level, t.giveUp(1), level - 1);
            due.is("sees(1, 0)", t.sees(1, 0), first);
            for (int x = 1; x < 15; x++) {
                due.is("sees(1, " + x + ")", t.sees(1, x), Edges.filling(x));
            }
            due.is("sees(1, 15)", t.sees(1, 15), last);
            due.is("digest()", t.digest(), Edges.filled().digest());
        }
    }

    private static void giveUpForgetsReadAndWritten() {
        due.part("what was read and written at that level is not read and not written any more");
        for (int level = 1; level <= 3; level++) {
            TransactionCaches t = Edges.at(0, level);
            Edges.readAll(t, 0);
            Edges.writeAll(t, 0, 1);
            due.is("giveUp(0)", t.giveUp(0), level - 1);
            due.is("readBy(0)", t.readBy(0), 0);
            due.is("writtenBy(0)", t.writtenBy(0), 0);
            for (int x = 0; x < 16; x++) {
                due.is("rivals(1, " + x + ", 0)", t.rivals(1, x, 0), 0);
                due.is("write(1, " + x + ", 2)", t.write(1, x, 2), 0);
            }
        }
    }

    private static void giveUpLeavesTheLevelsBelow() {
        due.part("(a cell may still have been read or written at a level below)");
        for (int level = 2; level <= 3; level++) {
            TransactionCaches t = Edges.at(0, level - 1);
            t.read(0, 0);
            t.write(0, 15, 1);
            t.begin(0);
            t.read(0, 0);
            t.write(0, 0, 2);
            t.read(0, 15);
            t.write(0, 15, 2);
            due.is("giveUp(0)", t.giveUp(0), level - 1);
            due.is("readBy(0)", t.readBy(0), 1);
            due.is("writtenBy(0)", t.writtenBy(0), 1 << 15);
            due.is("read(1, 0): read below", t.read(1, 0), 0);
            due.is("write(1, 0, 9): read below", t.write(1, 0, 9), CONFLICT);
            due.is("read(1, 15): written below", t.read(1, 15), CONFLICT);
        }
        TransactionCaches t = Edges.at(0, 1);
        t.read(0, 4);
        t.begin(0);
        t.begin(0);
        t.read(0, 4);
        t.giveUp(0);
        due.is("readBy(0): read two levels below", t.readBy(0), 16);
        t.giveUp(0);
        due.is("readBy(0): read at the level that is left", t.readBy(0), 16);
    }

    private static void readAndWrittenByAtAnyLevel() {
        due.part("A cell is READ BY a core (WRITTEN BY it) when the core has read it (written it) in its transaction, at any level");
        for (int x = 0; x < 16; x++) {
            for (int level = 1; level <= 3; level++) {
                TransactionCaches t = Edges.at(x % 4, level);
                t.read(x % 4, x);
                due.is("readBy: " + x + " read", t.readBy(x % 4), 1 << x);
                due.is("writtenBy: " + x + " read", t.writtenBy(x % 4), 0);
                TransactionCaches u = Edges.at(x % 4, level);
                u.write(x % 4, x, 0);
                due.is("readBy: " + x + " written", u.readBy(x % 4), 0);
                due.is("writtenBy: " + x + " written", u.writtenBy(x % 4), 1 << x);
            }
        }
    }

    private static void readAndWrittenByTwice() {
        due.part("A cell is READ BY a core (WRITTEN BY it) ... at any level: also when twice, at one level or at two");
        for (int level = 1; level <= 3; level++) {
            TransactionCaches t = Edges.at(0, level);
            for (int times = 1; times <= 2; times++) {
                t.read(0, 5);
                t.write(0, 6, times);
                due.is("readBy(0) at one level, time " + times, t.readBy(0), 32);
                due.is("writtenBy(0) at one level, time " + times, t.writtenBy(0), 64);
            }
            for (int higher = level + 1; higher <= 3; higher++) {
                t.begin(0);
                t.read(0, 5);
                t.write(0, 6, 2 * higher);
                due.is("readBy(0) at levels up to " + higher, t.readBy(0), 32);
                due.is("writtenBy(0) at levels up to " + higher, t.writtenBy(0), 64);
            }
            for (int left = 2; left >= 1; left--) {
                due.is("end(0)", t.end(0), left);
                due.is("readBy(0) after the end of a level", t.readBy(0), 32);
                due.is("writtenBy(0) after the end of a level", t.writtenBy(0), 64);
            }
        }
    }

    private static void readAndWrittenByOnlyInTheTransaction() {
        due.part("READ BY a core (WRITTEN BY it) ... in its transaction: neither before it began nor after its end");
        for (int c = 0; c < 4; c++) {
            TransactionCaches t = new TransactionCaches();
            t.read(c, 0);
            t.write(c, 1, 1);
            t.add(c, 2, 1);
            due.is("readBy(" + c + ") outside", t.readBy(c), 0);
            due.is("writtenBy(" + c + ") outside", t.writtenBy(c), 0);
            t.begin(c);
            due.is("readBy(" + c + ") just begun", t.readBy(c), 0);
            due.is("writtenBy(" + c + ") just begun", t.writtenBy(c), 0);
            t.read(c, 0);
            t.write(c, 1, 2);
            t.end(c);
            due.is("readBy(" + c + ") after the end", t.readBy(c), 0);
            due.is("writtenBy(" + c + ") after the end", t.writtenBy(c), 0);
            due.is("write(" + (c + 1) % 4 + ", 0, 1) after the end", t.write((c + 1) % 4, 0, 1), 0);
            due.is("read(" + (c + 1) % 4 + ", 1) after the end", t.read((c + 1) % 4, 1), 0);
        }
    }

    private static void readingInConflict() {
        due.part("A core's reading of a cell is IN CONFLICT when the cell is written by another core");
        for (int writer = 0; writer < 4; writer++) {
            for (int level = 1; level <= 3; level++) {
                TransactionCaches t = Edges.at(writer, level);
                t.write(writer, 15, 0);
                t.read(writer, 0);
                for (int c = 0; c < 4; c++) {
                    int answer = c == writer ? 0 : CONFLICT;
                    due.is("read(" + c + ", 15) outside or its own", t.read(c, 15), answer);
                    due.is("read(" + c + ", 0): read only", t.read(c, 0), 0);
                    due.is("read(" + c + ", 14): a neighbour", t.read(c, 14), 0);
                    t.begin(c);
                    due.is("read(" + c + ", 15)", t.read(c, 15), answer);
                    due.is("read(" + c + ", 0): read only", t.read(c, 0), 0);
                }
            }
        }
    }

    private static void writingInConflict() {
        due.part("a core's writing of a cell is in conflict when it is read or written by another core");
        for (int holder = 0; holder < 4; holder++) {
            for (int level = 1; level <= 3; level++) {
                TransactionCaches t = Edges.at(holder, level);
                t.read(holder, 0);
                t.write(holder, 15, 0);
                for (int c = 0; c < 4; c++) {
                    int answer = c == holder ? 0 : CONFLICT;
                    due.is("write(" + c + ", 15, 1) outside or its own", t.write(c, 15, 1), answer);
                    due.is("write(" + c + ", 0, 1) outside or its own", t.write(c, 0, 1), answer);
                    due.is("rivals(" + c + ", 1, 1): a neighbour", t.rivals(c, 1, 1), 0);
                    t.begin(c);
                    due.is("write(" + c + ", 15, 1)", t.write(c, 15, 1), answer);
                    due.is("write(" + c + ", 0, 1)", t.write(c, 0, 1), answer);
                }
            }
        }
    }

    private static void inConflictIsNotDone() {
        due.part("What is in conflict is not done.");
        for (int level = 0; level <= 3; level++) {
            TransactionCaches t = Edges.filledAt(1, level);
            t.begin(0);
            t.write(0, 0, 9);
            t.read(0, 15);
            due.is("read(1, 0)", t.read(1, 0), CONFLICT);
            due.is("write(1, 0, 8)", t.write(1, 0, 8), CONFLICT);
            due.is("add(1, 0, 8)", t.add(1, 0, 8), CONFLICT);
            due.is("write(1, 15, 8)", t.write(1, 15, 8), CONFLICT);
            due.is("add(1, 15, 8)", t.add(1, 15, 8), CONFLICT);
            due.is("readBy(1)", t.readBy(1), 0);
            due.is("writtenBy(1)", t.writtenBy(1), 0);
            due.is("sees(1, 0)", t.sees(1, 0), Edges.filling(0));
            due.is("sees(1, 15)", t.sees(1, 15), Edges.filling(15));
            due.is("sees(0, 0)", t.sees(0, 0), 9);
            due.is("level(1)", t.level(1), level);
            due.is("level(0)", t.level(0), 1);
            t.giveAllUp(0);
            due.is("write(2, 0, 1): core 1 has not read it", t.write(2, 0, 1), 0);
            due.is("write(2, 15, 1): core 1 has not read it", t.write(2, 15, 1), 0);
        }
    }
}
