import java.util.Arrays;
import java.util.function.ToIntFunction;

/**
 * Promise 16: "a call that is refused (by a code below 0 that is named, or by false) changes nothing". Two objects are
 * brought to the same state; one of them gets the call that is refused. Then both are asked for all they tell, level by level
 * on the way out, since what a level owns shows only once it is given up or ended. Calls that only ask are held to the same.
 */
public final class RefusalsTest {
    private static final int[] CORES = {0, 1, 2, 3, -1, 4, Edges.MIN, Edges.MAX};
    private static final int[] CELLS = {0, 1, 2, 3, 4, 5, 6, 7, 8, 9, 10, 11, 12, 13, 14, 15, -1, 16, Edges.MIN, Edges.MAX};
    private static final int[] WHATS = {0, 1, -1, 2};
    private static final int STATES = 5;
    private static final Due due = new Due();
    private static int refused = 0;

    /** From all outside to all at level 3; with cells read alone, written alone, both, and at several levels. */
    private static TransactionCaches state(int number) {
        TransactionCaches t = Edges.filled();
        for (int c = 0; c < 4; c++) {
            int levels = number == 4 ? 3 : (number + 3 * c) % 4;
            for (int n = 1; n <= levels && number > 0; n++) {
                t.begin(c);
                t.read(c, 15);
                t.read(c, c);
                t.write(c, 4 + c, 10 * n);
                t.write(c, 8 + (c + n) % 4, 100 * n);
                t.add(c, 12 + c % 2, n);
            }
        }
        return t;
    }

    private static int[] tell(TransactionCaches t) {
        int[] told = new int[4 * (3 + 16) + 16];
        int n = 0;
        for (int c = 0; c < 4; c++) {
            told[n++] = t.level(c);
            told[n++] = t.readBy(c);
            told[n++] = t.writtenBy(c);
            for (int x = 0; x < 16; x++) {
                told[n++] = t.sees(c, x);
            }
        }
        for (int x = 0; x < 16; x++) {
            told[n++] = t.committed(x);
        }
        return told;
    }

    /** All that the object tells now and after each step of all cores towards the outside: 3 steps of 4 calls, 4 tellings. */
    private static int[] tellOnTheWayOut(TransactionCaches t, boolean byEnd) {
        int[] all = new int[0];
        for (int step = 0; step <= 3; step++) {
            int[] told = tell(t);
            int[] longer = Arrays.copyOf(all, all.length + told.length);
            System.arraycopy(told, 0, longer, all.length, told.length);
            all = longer;
            for (int c = 0; c < 4 && step < 3; c++) {
                if (byEnd) {
                    t.end(c);
                } else {
                    t.giveUp(c);
                }
            }
        }
        return all;
    }

    private static void changesNothing(String name, int number, boolean query, ToIntFunction<TransactionCaches> call) {
        for (boolean byEnd : new boolean[] {false, true}) {
            TransactionCaches t = state(number);
            int answer = call.applyAsInt(t);
            if (!query && answer >= 0) {
                return;
            }
            refused += query ? 0 : 1;
            boolean same = Arrays.equals(tellOnTheWayOut(t, byEnd), tellOnTheWayOut(state(number), byEnd));
            due.is(name + " answered " + answer + "; is all as before", same ? 1 : 0, 1);
        }
    }

    public static void main(String[] args) {
        for (int number = 0; number < STATES; number++) {
            due.part("state " + number);
            for (int c : CORES) {
                callsOfCore(number, c);
                for (int x : CELLS) {
                    callsOfCell(number, c, x);
                }
            }
        }
        due.part("refused calls tried");
        due.is(refused + " are enough", refused >= 2000 ? 1 : 0, 1);
        System.out.println(refused + " refused calls tried");
        due.finish();
    }

    private static void callsOfCore(int number, int c) {
        changesNothing("begin(" + c + ")", number, false, t -> t.begin(c));
        changesNothing("end(" + c + ")", number, false, t -> t.end(c));
        changesNothing("giveUp(" + c + ")", number, false, t -> t.giveUp(c));
        changesNothing("giveAllUp(" + c + ")", number, false, t -> t.giveAllUp(c));
        changesNothing("level(" + c + ")", number, true, t -> t.level(c));
        changesNothing("readBy(" + c + ")", number, true, t -> t.readBy(c));
        changesNothing("writtenBy(" + c + ")", number, true, t -> t.writtenBy(c));
        changesNothing("digest()", number, true, t -> t.digest());
    }

    private static void callsOfCell(int number, int c, int x) {
        changesNothing("read(" + c + ", " + x + ")", number, false, t -> t.read(c, x));
        changesNothing("write(" + c + ", " + x + ", 7)", number, false, t -> t.write(c, x, 7));
        changesNothing("add(" + c + ", " + x + ", 7)", number, false, t -> t.add(c, x, 7));
        changesNothing("sees(" + c + ", " + x + ")", number, true, t -> t.sees(c, x));
        changesNothing("committed(" + x + ")", number, true, t -> t.committed(x));
        for (int what : WHATS) {
            changesNothing("rivals(" + c + ", " + x + ", " + what + ")", number, true, t -> t.rivals(c, x, what));
        }
    }
}
