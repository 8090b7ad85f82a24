/** The edges in the promises' own parts: a test of its own for each sentence or part of one, which it bears as its name. */
public final class PromiseEdgesTest {
    private static final int CONFLICT = Edges.CONFLICT;
    private static final int NONE = Edges.NONE;
    private static final Due due = new Due();

    public static void main(String[] args) {
        newObject();
        beginAnswersItsNumber();
        beginWithoutCore();
        beginAtLevelThree();
        readAnswers();
        readWithoutCoreOrCell();
        readOutside();
        seesWithoutReading();
        seesInConflict();
        seesWithoutCoreOrCell();
        writeAnswers();
        writeWithoutCoreOrCell();
        addWraps();
        addIsBoth();
        addInConflictByReading();
        addInConflictByWriting();
        addWithoutCoreOrCell();
        endAnswersTheLevelThen();
        endOutside();
        endWithoutCore();
        giveUpAnswersTheLevelThen();
        giveUpOutside();
        giveUpWithoutCore();
        giveAllUpAnswersHowMany();
        giveAllUpWithoutCore();
        levelOutside();
        levelWithoutCore();
        committedOfEachCell();
        committedWithoutCell();
        readByBits();
        readByWithoutCore();
        writtenByBits();
        writtenByWithoutCore();
        rivalsBits();
        rivalsReadingOrWriting();
        rivalsWithoutCoreCellOrWhat();
        digestWeights();
        digestWraps();
        givenUpSeesWhatIsCommittedThen();
        givenUpSeesTheLevelsLeft();
        allGivenUpSeesWhatIsCommittedThen();
        due.finish();
    }

    private static void newObject() {
        due.part("1: All cores outside, all cells 0.");
        TransactionCaches t = new TransactionCaches();
        for (int c = 0; c < 4; c++) {
            due.is("level(" + c + ")", t.level(c), 0);
            due.is("end(" + c + ")", t.end(c), NONE);
            due.is("giveUp(" + c + ")", t.giveUp(c), NONE);
            due.is("giveAllUp(" + c + ")", t.giveAllUp(c), 0);
            due.is("readBy(" + c + ")", t.readBy(c), 0);
            due.is("writtenBy(" + c + ")", t.writtenBy(c), 0);
        }
        for (int x = 0; x < 16; x++) {
            due.is("committed(" + x + ")", t.committed(x), 0);
            due.is("sees(" + x % 4 + ", " + x + ")", t.sees(x % 4, x), 0);
        }
        due.is("digest()", t.digest(), 0);
    }

    private static void beginAnswersItsNumber() {
        due.part("2: Core c begins a level and answers its number");
        TransactionCaches t = new TransactionCaches();
        for (int n = 1; n <= 3; n++) {
            for (int c = 0; c < 4; c++) {
                due.is("begin(" + c + ")", t.begin(c), n);
                due.is("level(" + c + ")", t.level(c), n);
            }
        }
    }

    private static void beginWithoutCore() {
        due.part("2: NONE when c is not 0 .. 3");
        TransactionCaches t = new TransactionCaches();
        for (int c : Edges.NO_CORES) {
            due.is("begin(" + c + ")", t.begin(c), NONE);
        }
        for (int c = 0; c < 4; c++) {
            due.is("level(" + c + ")", t.level(c), 0);
        }
    }

    private static void beginAtLevelThree() {
        due.part("2: NONE when c ... is at level 3");
        for (int c = 0; c < 4; c++) {
            TransactionCaches t = Edges.at(c, 3);
            t.write(c, 1, 5);
            t.read(c, 2);
            due.is("begin(" + c + ")", t.begin(c), NONE);
            due.is("begin(" + c + ") again", t.begin(c), NONE);
            due.is("level(" + c + ")", t.level(c), 3);
            due.is("sees(" + c + ", 1)", t.sees(c, 1), 5);
            due.is("writtenBy(" + c + ")", t.writtenBy(c), 2);
            due.is("readBy(" + c + ")", t.readBy(c), 4);
            due.is("begin of another", t.begin((c + 1) % 4), 1);
            due.is("giveUp(" + c + "): one level was there", t.giveUp(c), 2);
            due.is("writtenBy(" + c + ") after it", t.writtenBy(c), 0);
            due.is("begin(" + c + ") at level 2", t.begin(c), 3);
        }
    }

    private static void readAnswers() {
        due.part("3: answers whether it was done: 0, CONFLICT");
        for (int x = 0; x < 16; x++) {
            TransactionCaches t = Edges.filledAt(0, 1);
            t.begin(1);
            due.is("read(0, " + x + ")", t.read(0, x), 0);
            due.is("readBy(0)", t.readBy(0), 1 << x);
            due.is("read(0, " + x + ") again", t.read(0, x), 0);
            due.is("read(1, " + x + ") that another has read", t.read(1, x), 0);
            t.giveUp(1);
            due.is("write(0, " + x + ", 1)", t.write(0, x, 1), 0);
            due.is("read(1, " + x + ")", t.read(1, x), CONFLICT);
            t.begin(1);
            due.is("read(1, " + x + ") at level 1", t.read(1, x), CONFLICT);
            due.is("readBy(1)", t.readBy(1), 0);
        }
    }

    private static void readWithoutCoreOrCell() {
        due.part("3: NONE when c is not 0 .. 3 or x is not 0 .. 15");
        TransactionCaches t = Edges.filledAt(0, 1);
        t.begin(3);
        t.write(0, 0, 1);
        t.write(3, 15, 1);
        for (int c : Edges.NO_CORES) {
            due.is("read(" + c + ", 0)", t.read(c, 0), NONE);
            due.is("read(" + c + ", 7)", t.read(c, 7), NONE);
            due.is("read(" + c + ", 15)", t.read(c, 15), NONE);
            due.is("read(" + c + ", 16)", t.read(c, 16), NONE);
        }
        for (int x : Edges.NO_CELLS) {
            due.is("read(0, " + x + ")", t.read(0, x), NONE);
            due.is("read(1, " + x + ")", t.read(1, x), NONE);
            due.is("read(3, " + x + ")", t.read(3, x), NONE);
        }
        for (int c = 0; c < 4; c++) {
            due.is("readBy(" + c + ")", t.readBy(c), 0);
        }
    }

    private static void readOutside() {
        due.part("3: (A core outside reads nothing in the sense above.)");
        for (int c = 0; c < 4; c++) {
            TransactionCaches t = new TransactionCaches();
            for (int x = 0; x < 16; x++) {
                due.is("read(" + c + ", " + x + ")", t.read(c, x), 0);
            }
            due.is("readBy(" + c + ")", t.readBy(c), 0);
            int other = (c + 1) % 4;
            t.begin(other);
            for (int x = 0; x < 16; x++) {
                due.is("rivals(" + other + ", " + x + ", 1)", t.rivals(other, x, 1), 0);
                due.is("write(" + other + ", " + x + ", 1)", t.write(other, x, 1), 0);
            }
            t.begin(c);
            due.is("readBy(" + c + ") once begun", t.readBy(c), 0);
        }
    }

    private static void seesWithoutReading() {
        due.part("4: (without reading it");
        for (int level = 0; level <= 3; level++) {
            TransactionCaches t = Edges.filledAt(2, level);
            for (int x = 0; x < 16; x++) {
                due.is("sees(2, " + x + ")", t.sees(2, x), Edges.filling(x));
            }
            due.is("readBy(2)", t.readBy(2), 0);
            for (int x = 0; x < 16; x++) {
                due.is("write(1, " + x + ", 1)", t.write(1, x, 1), 0);
                due.is("sees(2, " + x + ") after it", t.sees(2, x), 1);
            }
        }
    }

    private static void seesInConflict() {
        due.part("4: and whether or not that would be in conflict)");
        for (int level = 0; level <= 3; level++) {
            TransactionCaches t = Edges.filledAt(2, level);
            t.begin(0);
            Edges.writeAll(t, 0, 0);
            for (int x = 0; x < 16; x++) {
                due.is("rivals(2, " + x + ", 0)", t.rivals(2, x, 0), 1);
                due.is("sees(2, " + x + ")", t.sees(2, x), Edges.filling(x));
                due.is("sees(0, " + x + ")", t.sees(0, x), x);
            }
        }
    }

    private static void seesWithoutCoreOrCell() {
        due.part("4: 0 when c is not 0 .. 3 or x is not 0 .. 15");
        for (int level = 0; level <= 3; level++) {
            TransactionCaches t = Edges.filledAt(0, level);
            if (level > 0) {
                Edges.writeAll(t, 0, 300);
            }
            for (int c : Edges.NO_CORES) {
                for (int x = 0; x < 16; x += 5) {
                    due.is("sees(" + c + ", " + x + ")", t.sees(c, x), 0);
                }
                due.is("sees(" + c + ", 16)", t.sees(c, 16), 0);
            }
            for (int x : Edges.NO_CELLS) {
                for (int c = 0; c < 4; c++) {
                    due.is("sees(" + c + ", " + x + ")", t.sees(c, x), 0);
                }
            }
        }
    }

    private static void writeAnswers() {
        due.part("5: Core c writes v to cell x; answers as read: 0, CONFLICT");
        for (int x = 0; x < 16; x++) {
            for (int v : Edges.VALUES) {
                TransactionCaches t = Edges.filledAt(3, 1);
                due.is("write(3, " + x + ", " + v + ")", t.write(3, x, v), 0);
                due.is("sees(3, " + x + ")", t.sees(3, x), v);
                due.is("committed(" + x + ")", t.committed(x), Edges.filling(x));
                due.is("write(0, " + x + ", " + v + ")", t.write(0, x, v), CONFLICT);
                due.is("committed(" + x + ") after it", t.committed(x), Edges.filling(x));
                t.giveUp(3);
                due.is("write(0, " + x + ", " + v + ") outside", t.write(0, x, v), 0);
                due.is("committed(" + x + ") after that", t.committed(x), v);
            }
        }
    }

    private static void writeWithoutCoreOrCell() {
        due.part("5: answers as read: NONE when c is not 0 .. 3 or x is not 0 .. 15");
        TransactionCaches t = Edges.filledAt(0, 1);
        t.begin(3);
        t.write(0, 0, 1);
        t.write(3, 15, 1);
        int digest = t.digest();
        for (int c : Edges.NO_CORES) {
            due.is("write(" + c + ", 0, 5)", t.write(c, 0, 5), NONE);
            due.is("write(" + c + ", 7, 5)", t.write(c, 7, 5), NONE);
            due.is("write(" + c + ", 15, 5)", t.write(c, 15, 5), NONE);
            due.is("write(" + c + ", 16, 5)", t.write(c, 16, 5), NONE);
        }
        for (int x : Edges.NO_CELLS) {
            due.is("write(0, " + x + ", 5)", t.write(0, x, 5), NONE);
            due.is("write(1, " + x + ", 5)", t.write(1, x, 5), NONE);
            due.is("write(3, " + x + ", 5)", t.write(3, x, 5), NONE);
        }
        due.is("digest()", t.digest(), digest);
        due.is("writtenBy(0)", t.writtenBy(0), 1);
        due.is("writtenBy(3)", t.writtenBy(3), 1 << 15);
    }

    private static void addWraps() {
        due.part("6: what it sees there plus d (wrapping)");
        int[][] sums = {
            {Edges.MAX, 1, Edges.MIN}, {Edges.MIN, -1, Edges.MAX}, {Edges.MIN, Edges.MIN, 0}, {Edges.MAX, Edges.MAX, -2},
            {Edges.MAX, Edges.MIN, -1}, {0, Edges.MIN, Edges.MIN}, {5, 0, 5}, {-3, 3, 0}};
        for (int level = 0; level <= 3; level++) {
            for (int[] sum : sums) {
                TransactionCaches t = new TransactionCaches();
                t.write(1, 15, sum[0]);
                for (int i = 0; i < level; i++) {
                    t.begin(1);
                }
                due.is("add(1, 15, " + sum[1] + ") to " + sum[0], t.add(1, 15, sum[1]), 0);
                due.is("sees(1, 15)", t.sees(1, 15), sum[2]);
                due.is("committed(15)", t.committed(15), level == 0 ? sum[2] : sum[0]);
                due.is("sees(1, 14)", t.sees(1, 14), 0);
            }
        }
    }

    private static void addIsBoth() {
        due.part("6: a reading and a writing");
        for (int x = 0; x < 16; x++) {
            TransactionCaches t = Edges.filledAt(2, 2);
            due.is("add(2, " + x + ", 0)", t.add(2, x, 0), 0);
            due.is("readBy(2)", t.readBy(2), 1 << x);
            due.is("writtenBy(2)", t.writtenBy(2), 1 << x);
            due.is("sees(2, " + x + ")", t.sees(2, x), Edges.filling(x));
            t.giveUp(2);
            due.is("readBy(2) after giveUp", t.readBy(2), 0);
            due.is("writtenBy(2) after giveUp", t.writtenBy(2), 0);
            t.write(2, x, 1);
            t.begin(2);
            due.is("add(2, " + x + ", 1) to its own", t.add(2, x, 1), 0);
            due.is("sees(2, " + x + ")", t.sees(2, x), 2);
            t.giveAllUp(2);
            due.is("add(2, " + x + ", 1) outside", t.add(2, x, 1), 0);
            due.is("readBy(2) outside", t.readBy(2), 0);
            due.is("writtenBy(2) outside", t.writtenBy(2), 0);
            due.is("committed(" + x + ")", t.committed(x), Edges.filling(x) + 1);
        }
    }

    private static void addInConflictByReading() {
        due.part("6: in conflict when one of them is, and then neither is done (written by another)");
        for (int level = 0; level <= 3; level++) {
            TransactionCaches t = Edges.filledAt(1, level);
            t.begin(0);
            t.write(0, 4, 1);
            due.is("add(1, 4, 1)", t.add(1, 4, 1), CONFLICT);
            neitherIsDone(t, level);
        }
    }

    private static void addInConflictByWriting() {
        due.part("6: in conflict when one of them is, and then neither is done (read by another)");
        for (int level = 0; level <= 3; level++) {
            TransactionCaches t = Edges.filledAt(1, level);
            t.begin(0);
            t.read(0, 4);
            due.is("rivals(1, 4, 0): the reading alone is free", t.rivals(1, 4, 0), 0);
            due.is("add(1, 4, 1)", t.add(1, 4, 1), CONFLICT);
            neitherIsDone(t, level);
            due.is("write(0, 4, 2): core 1 has not read it", t.write(0, 4, 2), 0);
        }
    }

    private static void neitherIsDone(TransactionCaches t, int level) {
        due.is("readBy(1) at level " + level, t.readBy(1), 0);
        due.is("writtenBy(1) at level " + level, t.writtenBy(1), 0);
        due.is("sees(1, 4) at level " + level, t.sees(1, 4), Edges.filling(4));
        due.is("committed(4) at level " + level, t.committed(4), Edges.filling(4));
    }

    private static void addWithoutCoreOrCell() {
        due.part("6: answers as read: NONE when c is not 0 .. 3 or x is not 0 .. 15");
        TransactionCaches t = Edges.filledAt(0, 1);
        t.begin(3);
        t.write(0, 0, 1);
        t.write(3, 15, 1);
        int digest = t.digest();
        for (int c : Edges.NO_CORES) {
            due.is("add(" + c + ", 0, 5)", t.add(c, 0, 5), NONE);
            due.is("add(" + c + ", 7, 5)", t.add(c, 7, 5), NONE);
            due.is("add(" + c + ", 15, 5)", t.add(c, 15, 5), NONE);
            due.is("add(" + c + ", 16, 5)", t.add(c, 16, 5), NONE);
        }
        for (int x : Edges.NO_CELLS) {
            due.is("add(0, " + x + ", 5)", t.add(0, x, 5), NONE);
            due.is("add(1, " + x + ", 5)", t.add(1, x, 5), NONE);
            due.is("add(3, " + x + ", 5)", t.add(3, x, 5), NONE);
        }
        due.is("digest()", t.digest(), digest);
        for (int c = 0; c < 4; c++) {
            due.is("readBy(" + c + ")", t.readBy(c), 0);
        }
        due.is("writtenBy(0)", t.writtenBy(0), 1);
        due.is("writtenBy(3)", t.writtenBy(3), 1 << 15);
    }

    private static void endAnswersTheLevelThen() {
        due.part("7: Core c ends its level, and answers the level it is at then (0 for outside)");
        for (int c = 0; c < 4; c++) {
            for (int level = 1; level <= 3; level++) {
                TransactionCaches t = Edges.at(c, level);
                t.begin((c + 1) % 4);
                for (int then = level - 1; then >= 0; then--) {
                    due.is("end(" + c + ")", t.end(c), then);
                    due.is("level(" + c + ")", t.level(c), then);
                }
                due.is("level of another", t.level((c + 1) % 4), 1);
            }
        }
    }

    private static void endOutside() {
        due.part("7: NONE when it is outside");
        for (int c = 0; c < 4; c++) {
            TransactionCaches t = Edges.filled();
            due.is("end(" + c + ") on a new object", t.end(c), NONE);
            t.begin(c);
            t.end(c);
            due.is("end(" + c + ") after the last end", t.end(c), NONE);
            t.begin(c);
            t.write(c, 1, 1);
            t.giveUp(c);
            due.is("end(" + c + ") after giveUp", t.end(c), NONE);
            due.is("level(" + c + ")", t.level(c), 0);
            due.is("committed(1)", t.committed(1), Edges.filling(1));
            due.is("begin(" + c + ")", t.begin(c), 1);
        }
    }

    private static void endWithoutCore() {
        due.part("7: NONE when ... c is not 0 .. 3");
        TransactionCaches t = allAtLevelTwo();
        for (int c : Edges.NO_CORES) {
            due.is("end(" + c + ")", t.end(c), NONE);
        }
        allStayAtLevelTwo(t);
    }

    private static TransactionCaches allAtLevelTwo() {
        TransactionCaches t = new TransactionCaches();
        for (int c = 0; c < 4; c++) {
            t.begin(c);
            t.begin(c);
            t.write(c, c, 9);
        }
        return t;
    }

    private static void allStayAtLevelTwo(TransactionCaches t) {
        for (int c = 0; c < 4; c++) {
            due.is("level(" + c + ")", t.level(c), 2);
            due.is("writtenBy(" + c + ")", t.writtenBy(c), 1 << c);
        }
        due.is("digest()", t.digest(), 0);
    }

    private static void giveUpAnswersTheLevelThen() {
        due.part("8: Core c gives its level up, and answers the level it is at then");
        for (int c = 0; c < 4; c++) {
            for (int level = 1; level <= 3; level++) {
                TransactionCaches t = Edges.at(c, level);
                t.begin((c + 1) % 4);
                for (int then = level - 1; then >= 0; then--) {
                    due.is("giveUp(" + c + ")", t.giveUp(c), then);
                    due.is("level(" + c + ")", t.level(c), then);
                }
                due.is("level of another", t.level((c + 1) % 4), 1);
            }
        }
    }

    private static void giveUpOutside() {
        due.part("8: NONE as in end: when it is outside");
        for (int c = 0; c < 4; c++) {
            TransactionCaches t = Edges.filled();
            due.is("giveUp(" + c + ") on a new object", t.giveUp(c), NONE);
            t.begin(c);
            t.giveUp(c);
            due.is("giveUp(" + c + ") after the last giveUp", t.giveUp(c), NONE);
            t.begin(c);
            t.write(c, 1, 1);
            t.end(c);
            due.is("giveUp(" + c + ") after end", t.giveUp(c), NONE);
            due.is("level(" + c + ")", t.level(c), 0);
            due.is("committed(1) stays", t.committed(1), 1);
            due.is("begin(" + c + ")", t.begin(c), 1);
        }
    }

    private static void giveUpWithoutCore() {
        due.part("8: NONE as in end: when c is not 0 .. 3");
        TransactionCaches t = allAtLevelTwo();
        for (int c : Edges.NO_CORES) {
            due.is("giveUp(" + c + ")", t.giveUp(c), NONE);
        }
        allStayAtLevelTwo(t);
    }

    private static void giveAllUpAnswersHowMany() {
        due.part("9: Core c gives all its levels up, and answers how many these were");
        for (int c = 0; c < 4; c++) {
            for (int level = 0; level <= 3; level++) {
                TransactionCaches t = Edges.filled();
                for (int n = 1; n <= level; n++) {
                    t.begin(c);
                    t.write(c, n, n);
                    t.write(c, 15, n);
                    t.read(c, 8 + n);
                }
                due.is("giveAllUp(" + c + ") at level " + level, t.giveAllUp(c), level);
                due.is("level(" + c + ")", t.level(c), 0);
                due.is("readBy(" + c + ")", t.readBy(c), 0);
                due.is("writtenBy(" + c + ")", t.writtenBy(c), 0);
                for (int x = 0; x < 16; x++) {
                    due.is("sees(" + c + ", " + x + ")", t.sees(c, x), Edges.filling(x));
                }
                due.is("giveAllUp(" + c + ") again: none", t.giveAllUp(c), 0);
                due.is("begin(" + c + ")", t.begin(c), 1);
            }
        }
    }

    private static void giveAllUpWithoutCore() {
        due.part("9: NONE when c is not 0 .. 3");
        TransactionCaches t = allAtLevelTwo();
        for (int c : Edges.NO_CORES) {
            due.is("giveAllUp(" + c + ")", t.giveAllUp(c), NONE);
        }
        allStayAtLevelTwo(t);
    }

    private static void levelOutside() {
        due.part("10: The level of core c (0 outside)");
        TransactionCaches t = new TransactionCaches();
        for (int c = 0; c < 4; c++) {
            due.is("level(" + c + ") of a new object", t.level(c), 0);
            for (int n = 1; n <= 3; n++) {
                t.begin(c);
                due.is("level(" + c + ")", t.level(c), n);
            }
        }
        t.giveAllUp(0);
        due.is("level(0) after giveAllUp", t.level(0), 0);
        due.is("level(1)", t.level(1), 3);
    }

    private static void levelWithoutCore() {
        due.part("10: NONE when c is not 0 .. 3");
        TransactionCaches t = allAtLevelTwo();
        for (int c : Edges.NO_CORES) {
            due.is("level(" + c + ")", t.level(c), NONE);
        }
    }

    private static void committedOfEachCell() {
        due.part("11: What is committed in cell x");
        TransactionCaches t = Edges.filledAt(0, 3);
        Edges.writeAll(t, 0, 500);
        for (int level = 3; level > 0; level--) {
            for (int x = 0; x < 16; x++) {
                due.is("committed(" + x + ") at level " + level, t.committed(x), Edges.filling(x));
            }
            t.end(0);
        }
        for (int x = 0; x < 16; x++) {
            due.is("committed(" + x + ") after the last end", t.committed(x), 500 + x);
        }
    }

    private static void committedWithoutCell() {
        due.part("11: 0 when x is not 0 .. 15");
        TransactionCaches t = Edges.filled();
        for (int x : Edges.NO_CELLS) {
            due.is("committed(" + x + ")", t.committed(x), 0);
        }
    }

    private static void readByBits() {
        due.part("12: The cells read by core c: bit x for cell x");
        for (int c = 0; c < 4; c++) {
            TransactionCaches t = Edges.at(c, 1);
            due.is("readBy(" + c + ") with nothing read", t.readBy(c), 0);
            int bits = 0;
            for (int x = 15; x >= 0; x--) {
                t.read(c, x);
                bits |= 1 << x;
                due.is("readBy(" + c + ") down to " + x, t.readBy(c), bits);
            }
            due.is("readBy(" + c + ") with all read", t.readBy(c), 65535);
            due.is("readBy of another", t.readBy((c + 1) % 4), 0);
        }
    }

    private static void readByWithoutCore() {
        due.part("12: 0 when c is not 0 .. 3");
        TransactionCaches t = new TransactionCaches();
        for (int c = 0; c < 4; c++) {
            t.begin(c);
            Edges.readAll(t, c);
        }
        for (int c : Edges.NO_CORES) {
            due.is("readBy(" + c + ")", t.readBy(c), 0);
        }
    }

    private static void writtenByBits() {
        due.part("13: The cells written by core c: bit x for cell x");
        for (int c = 0; c < 4; c++) {
            TransactionCaches t = Edges.at(c, 1);
            due.is("writtenBy(" + c + ") with nothing written", t.writtenBy(c), 0);
            int bits = 0;
            for (int x = 15; x >= 0; x--) {
                t.write(c, x, 0);
                bits |= 1 << x;
                due.is("writtenBy(" + c + ") down to " + x, t.writtenBy(c), bits);
            }
            due.is("writtenBy(" + c + ") with all written", t.writtenBy(c), 65535);
            due.is("writtenBy of another", t.writtenBy((c + 1) % 4), 0);
        }
    }

    private static void writtenByWithoutCore() {
        due.part("13: 0 when c is not 0 .. 3");
        TransactionCaches t = new TransactionCaches();
        for (int c = 0; c < 4; c++) {
            t.begin(c);
            for (int x = 4 * c; x < 4 * c + 4; x++) {
                t.write(c, x, 1);
            }
        }
        for (int c : Edges.NO_CORES) {
            due.is("writtenBy(" + c + ")", t.writtenBy(c), 0);
        }
    }

    private static void rivalsBits() {
        due.part("14: The cores because of which ... would be in conflict: bit d for core d");
        for (int readers = 0; readers < 16; readers++) {
            TransactionCaches t = new TransactionCaches();
            for (int d = 0; d < 4; d++) {
                if ((readers & 1 << d) != 0) {
                    t.begin(d);
                    t.read(d, 15);
                }
            }
            for (int c = 0; c < 4; c++) {
                due.is("rivals(" + c + ", 15, 1), readers " + readers, t.rivals(c, 15, 1), readers & ~(1 << c));
                due.is("rivals(" + c + ", 15, 0), readers " + readers, t.rivals(c, 15, 0), 0);
                due.is("rivals(" + c + ", 14, 1), readers " + readers, t.rivals(c, 14, 1), 0);
            }
        }
        for (int writer = 0; writer < 4; writer++) {
            TransactionCaches t = Edges.at(writer, 1);
            t.write(writer, 0, 0);
            for (int c = 0; c < 4; c++) {
                int bits = c == writer ? 0 : 1 << writer;
                due.is("rivals(" + c + ", 0, 0), writer " + writer, t.rivals(c, 0, 0), bits);
                due.is("rivals(" + c + ", 0, 1), writer " + writer, t.rivals(c, 0, 1), bits);
            }
        }
    }

    private static void rivalsReadingOrWriting() {
        due.part("14: a reading (what 0) or writing (what 1)");
        TransactionCaches t = Edges.at(3, 1);
        t.begin(3);
        t.read(3, 0);
        t.begin(3);
        t.write(3, 1, 1);
        t.add(3, 2, 1);
        for (int c = 0; c < 3; c++) {
            due.is("rivals(" + c + ", 0, 0)", t.rivals(c, 0, 0), 0);
            due.is("rivals(" + c + ", 0, 1)", t.rivals(c, 0, 1), 8);
            due.is("rivals(" + c + ", 1, 0)", t.rivals(c, 1, 0), 8);
            due.is("rivals(" + c + ", 1, 1)", t.rivals(c, 1, 1), 8);
            due.is("rivals(" + c + ", 2, 0)", t.rivals(c, 2, 0), 8);
            due.is("rivals(" + c + ", 2, 1)", t.rivals(c, 2, 1), 8);
            due.is("readBy(" + c + "): nothing was done", t.readBy(c), 0);
            due.is("writtenBy(" + c + "): nothing was done", t.writtenBy(c), 0);
        }
        t.giveUp(3);
        due.is("rivals(0, 1, 0) after giveUp", t.rivals(0, 1, 0), 0);
        due.is("rivals(0, 0, 1) after giveUp", t.rivals(0, 0, 1), 8);
        t.giveUp(3);
        due.is("rivals(0, 0, 1) after both", t.rivals(0, 0, 1), 0);
    }

    private static void rivalsWithoutCoreCellOrWhat() {
        due.part("14: 0 when c, x or what is not as above");
        TransactionCaches t = new TransactionCaches();
        for (int c = 0; c < 4; c++) {
            t.begin(c);
            for (int x = 4 * c; x < 4 * c + 4; x++) {
                t.write(c, x, 1);
            }
        }
        for (int what = 0; what <= 1; what++) {
            for (int c : Edges.NO_CORES) {
                due.is("rivals(" + c + ", 0, " + what + ")", t.rivals(c, 0, what), 0);
                due.is("rivals(" + c + ", 15, " + what + ")", t.rivals(c, 15, what), 0);
                due.is("rivals(" + c + ", 16, " + what + ")", t.rivals(c, 16, what), 0);
            }
            for (int x : Edges.NO_CELLS) {
                for (int c = 0; c < 4; c++) {
                    due.is("rivals(" + c + ", " + x + ", " + what + ")", t.rivals(c, x, what), 0);
                }
            }
        }
        for (int what : Edges.NO_WHATS) {
            due.is("rivals(0, 15, " + what + ")", t.rivals(0, 15, what), 0);
            due.is("rivals(3, 0, " + what + ")", t.rivals(3, 0, what), 0);
            due.is("rivals(4, 16, " + what + ")", t.rivals(4, 16, what), 0);
        }
    }

    private static void digestWeights() {
        due.part("15: The ... sum of what is committed in all cells, cell x weighted with x + 1");
        TransactionCaches t = new TransactionCaches();
        int want = 0;
        for (int x = 0; x < 16; x++) {
            t.write(x % 4, x, 1);
            want += x + 1;
            due.is("digest() with 1 up to " + x, t.digest(), want);
        }
        due.is("digest() with 1 in all cells", t.digest(), 136);
        t.begin(0);
        Edges.writeAll(t, 0, 1000);
        due.is("digest() while nothing of it is committed", t.digest(), 136);
        t.giveUp(0);
        due.is("digest() after giveUp", t.digest(), 136);
    }

    private static void digestWraps() {
        due.part("15: The wrapping sum");
        TransactionCaches t = new TransactionCaches();
        t.write(0, 1, Edges.MAX);
        due.is("digest(): 2 * MAX", t.digest(), -2);
        t.write(0, 0, Edges.MIN);
        due.is("digest(): MIN + 2 * MAX", t.digest(), Edges.MAX - 1);
        t.write(0, 15, Edges.MIN);
        due.is("digest(): 16 * MIN more", t.digest(), Edges.MAX - 1);
        t.write(0, 14, Edges.MIN);
        due.is("digest(): 15 * MIN more", t.digest(), -2);
        for (int x = 0; x < 16; x++) {
            t.write(0, x, Edges.MAX);
        }
        due.is("digest(): 136 * MAX", t.digest(), -136);
        for (int x = 0; x < 16; x++) {
            t.write(0, x, Edges.MIN);
        }
        due.is("digest(): 136 * MIN", t.digest(), 0);
    }

    private static void givenUpSeesWhatIsCommittedThen() {
        due.part("16: giveUp ...: of cells that the core has not written at the levels that are left it sees what is committed then");
        for (int level = 1; level <= 3; level++) {
            TransactionCaches t = Edges.filledAt(0, level);
            t.write(0, 0, 1);
            t.write(1, 15, -1);
            t.begin(2);
            t.write(2, 14, -2);
            t.end(2);
            due.is("giveUp(0)", t.giveUp(0), level - 1);
            due.is("sees(0, 0): its own is given up", t.sees(0, 0), Edges.filling(0));
            due.is("sees(0, 15): committed since, outside", t.sees(0, 15), -1);
            due.is("sees(0, 14): committed since, by an end", t.sees(0, 14), -2);
            due.is("write(3, 0, 7): nobody has it any more", t.write(3, 0, 7), 0);
            due.is("sees(0, 0): what another committed then", t.sees(0, 0), 7);
        }
    }

    private static void givenUpSeesTheLevelsLeft() {
        due.part("16: giveUp ...: (and of cells that it has written at the levels that are left, what it wrote there)");
        for (int level = 2; level <= 3; level++) {
            TransactionCaches t = Edges.filledAt(0, level - 1);
            t.write(0, 0, 0);
            t.write(0, 15, 5);
            t.begin(0);
            t.write(0, 0, 8);
            t.add(0, 15, 8);
            due.is("sees(0, 15)", t.sees(0, 15), 13);
            t.write(1, 7, 70);
            due.is("giveUp(0)", t.giveUp(0), level - 1);
            due.is("sees(0, 0)", t.sees(0, 0), 0);
            due.is("sees(0, 15)", t.sees(0, 15), 5);
            due.is("sees(0, 7)", t.sees(0, 7), 70);
            due.is("readBy(0)", t.readBy(0), 0);
        }
    }

    private static void allGivenUpSeesWhatIsCommittedThen() {
        due.part("16: giveAllUp: ... also what others committed after it began the level given up");
        for (int level = 1; level <= 3; level++) {
            TransactionCaches t = Edges.filled();
            for (int n = 1; n <= level; n++) {
                t.begin(0);
                t.write(0, 0, n);
                t.write(1, n, -n);
                t.begin(3);
                t.add(3, 15, n);
                t.end(3);
            }
            due.is("giveAllUp(0)", t.giveAllUp(0), level);
            due.is("sees(0, 0)", t.sees(0, 0), Edges.filling(0));
            for (int n = 1; n <= level; n++) {
                due.is("sees(0, " + n + ")", t.sees(0, n), -n);
            }
            due.is("sees(0, 15)", t.sees(0, 15), Edges.filling(15) + level * (level + 1) / 2);
        }
    }
}
