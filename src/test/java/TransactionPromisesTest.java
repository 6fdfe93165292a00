/** Promises 1 to 9: a new object, and what is done in, and at the end of, a transaction. */
public final class TransactionPromisesTest {
    private static final int[] NO_TRANSACTION = {-1, 4, 5, 32, Integer.MIN_VALUE, Integer.MAX_VALUE};
    private static final int[] NO_KEY = {-1, 32, 33, 64, Integer.MIN_VALUE, Integer.MAX_VALUE};

    public static void main(String[] args) {
        newObject();
        begin();
        beginStartsAfresh();
        write();
        writeAnyValue();
        writeFull();
        erase();
        eraseFull();
        read();
        readOfOwnWriteCounts();
        peek();
        peekDoesNotCountAsRead();
        viewStaysAtItsBase();
        countRange();
        countRangeCountsAsRead();
        commitMelds();
        commitConflicts();
        commitConflictsWithAnyStateSinceTheBase();
        commitOfNothing();
        abort();
        Checks.finish();
    }

    /** Makes the next state, with one key written in it. */
    private static void commitWrite(MeldLog x, int t, int key, int value) {
        x.begin(t);
        x.write(t, key, value);
        Checks.holds("P8 a commit that has read nothing succeeds", x.commit(t) == x.latest());
    }

    private static void commitErase(MeldLog x, int t, int key) {
        x.begin(t);
        x.erase(t, key);
        Checks.holds("P8 a commit that has read nothing succeeds", x.commit(t) == x.latest());
    }

    private static void newObject() {
        MeldLog x = new MeldLog();
        Checks.due("P1 latest()", x.latest(), 0);
        Checks.due("P1 size(0)", x.size(0), 0);
        Checks.due("P1 size(1)", x.size(1), MeldLog.BAD);
        for (int key = 0; key < 32; key++) {
            Checks.due("P1 has(0, " + key + ")", x.has(0, key), false);
            Checks.due("P1 at(0, " + key + ")", x.at(0, key), 0);
        }
        for (int t = 0; t < 4; t++) {
            Checks.due("P1 read(" + t + ", 0)", x.read(t, 0), MeldLog.CLOSED);
            Checks.due("P1 commit(" + t + ")", x.commit(t), MeldLog.CLOSED);
            Checks.due("P1 abort(" + t + ")", x.abort(t), MeldLog.CLOSED);
        }
    }

    private static void begin() {
        MeldLog x = new MeldLog();
        for (int t : NO_TRANSACTION) {
            Checks.due("P2 begin(" + t + ")", x.begin(t), MeldLog.BAD);
        }
        for (int t = 0; t < 4; t++) {
            Checks.due("P2 begin(" + t + ")", x.begin(t), 0);
            Checks.due("P2 begin(" + t + ") again", x.begin(t), MeldLog.OPEN);
        }
        Checks.due("P2 commit(2)", x.commit(2), 1);
        Checks.due("P2 begin(2) after a commit", x.begin(2), 1);
        Checks.due("P2 begin(0) still open", x.begin(0), MeldLog.OPEN);
        Checks.due("P2 abort(3)", x.abort(3), 0);
        Checks.due("P2 begin(3) after an abort", x.begin(3), 1);
    }

    private static void beginStartsAfresh() {
        MeldLog x = new MeldLog();
        x.begin(0);
        x.write(0, 3, 30);
        x.write(0, 4, 40);
        x.read(0, 5);
        x.abort(0);
        Checks.due("P2 begin(0)", x.begin(0), 0);
        Checks.due("P2 peek(0, 3) of an aborted write", x.peek(0, 3), 0);
        Checks.due("P2 read(0, 4) of an aborted write", x.read(0, 4), 0);
        Checks.due("P2 write(0, 6, 1) is the first", x.write(0, 6, 1), 1);
        commitWrite(x, 1, 5, 50);
        Checks.due("P2 commit(0): the read before the abort is forgotten", x.commit(0), 2);
        Checks.due("P2 has(2, 3) of an aborted write", x.has(2, 3), false);

        x.begin(0);
        x.begin(1);
        x.read(0, 9);
        x.write(0, 8, 80);
        commitWrite(x, 2, 9, 90);
        Checks.due("P2 commit(0) conflicts", x.commit(0), MeldLog.CONFLICT);
        Checks.due("P2 begin(0) after a conflict", x.begin(0), 3);
        Checks.due("P2 peek(0, 8) of a refused write", x.peek(0, 8), 0);
        Checks.due("P2 peek(0, 9) in the new base", x.peek(0, 9), 90);
        commitWrite(x, 2, 9, 91);
        Checks.due("P2 commit(0): the read before the conflict is forgotten", x.commit(0), 5);
    }

    private static void write() {
        MeldLog x = new MeldLog();
        x.begin(0);
        for (int t : NO_TRANSACTION) {
            Checks.due("P3 write(" + t + ", 0, 1)", x.write(t, 0, 1), MeldLog.BAD);
        }
        for (int key : NO_KEY) {
            Checks.due("P3 write(0, " + key + ", 1)", x.write(0, key, 1), MeldLog.BAD);
        }
        Checks.due("P3 write(1, 0, 1)", x.write(1, 0, 1), MeldLog.CLOSED);
        Checks.due("P3 write(0, 0, 7)", x.write(0, 0, 7), 1);
        Checks.due("P3 write(0, 31, 8)", x.write(0, 31, 8), 2);
        Checks.due("P3 write(0, 0, 9) again", x.write(0, 0, 9), 2);
        Checks.due("P3 peek(0, 0)", x.peek(0, 0), 9);
        Checks.due("P3 peek(0, 31)", x.peek(0, 31), 8);
        Checks.due("P3 has(0, 0): not in the state", x.has(0, 0), false);
        Checks.due("P3 commit(0)", x.commit(0), 1);
        Checks.due("P3 write(0, 1, 1) after a commit", x.write(0, 1, 1), MeldLog.CLOSED);
        Checks.due("P3 at(1, 0)", x.at(1, 0), 9);
        Checks.due("P3 at(1, 31)", x.at(1, 31), 8);
        Checks.due("P3 size(1)", x.size(1), 2);
    }

    private static void writeAnyValue() {
        int[] values = {0, 1, -1, MeldLog.GONE, Integer.MIN_VALUE, Integer.MAX_VALUE};
        MeldLog x = new MeldLog();
        x.begin(1);
        for (int key = 0; key < values.length; key++) {
            Checks.due("P3 write of " + values[key], x.write(1, key, values[key]), key + 1);
            Checks.due("P3 read of " + values[key], x.read(1, key), 1);
            Checks.due("P3 peek of " + values[key], x.peek(1, key), values[key]);
        }
        x.commit(1);
        for (int key = 0; key < values.length; key++) {
            Checks.due("P3 has of " + values[key], x.has(1, key), true);
            Checks.due("P3 at of " + values[key], x.at(1, key), values[key]);
        }
        Checks.due("P3 size(1)", x.size(1), values.length);
    }

    private static void writeFull() {
        MeldLog x = new MeldLog();
        x.begin(0);
        x.begin(1);
        for (int key = 0; key < 6; key++) {
            Checks.due("P3 write(0, " + key * 6 + ")", x.write(0, key * 6, key), key + 1);
        }
        Checks.due("P3 write(0, 31, 1): a seventh key", x.write(0, 31, 1), MeldLog.FULL);
        Checks.due("P3 peek(0, 31) after FULL", x.peek(0, 31), 0);
        Checks.due("P3 write(0, 30, 99): one of the six", x.write(0, 30, 99), 6);
        Checks.due("P3 write(0, 0, 98): one of the six", x.write(0, 0, 98), 6);
        Checks.due("P3 peek(0, 30)", x.peek(0, 30), 99);
        Checks.due("P3 write(1, 31, 1): another transaction", x.write(1, 31, 1), 1);
        Checks.due("P3 commit(0)", x.commit(0), 1);
        Checks.due("P3 has(1, 31) after FULL", x.has(1, 31), false);
        Checks.due("P3 size(1)", x.size(1), 6);
    }

    private static void erase() {
        MeldLog x = new MeldLog();
        commitWrite(x, 0, 5, 50);
        commitWrite(x, 0, 31, 310);
        x.begin(0);
        for (int t : NO_TRANSACTION) {
            Checks.due("P4 erase(" + t + ", 5)", x.erase(t, 5), MeldLog.BAD);
        }
        for (int key : NO_KEY) {
            Checks.due("P4 erase(0, " + key + ")", x.erase(0, key), MeldLog.BAD);
        }
        Checks.due("P4 erase(3, 5)", x.erase(3, 5), MeldLog.CLOSED);
        Checks.due("P4 erase(0, 5)", x.erase(0, 5), 1);
        Checks.due("P4 erase(0, 5) again", x.erase(0, 5), 1);
        Checks.due("P4 erase(0, 6) of no value", x.erase(0, 6), 2);
        Checks.due("P4 read(0, 5)", x.read(0, 5), 0);
        Checks.due("P4 peek(0, 5)", x.peek(0, 5), 0);
        Checks.due("P4 countRange(0, 0, 31)", x.countRange(0, 0, 31), 1);
        Checks.due("P4 erase(0, 31)", x.erase(0, 31), 3);
        Checks.due("P4 write(0, 31, 311) after erase", x.write(0, 31, 311), 3);
        Checks.due("P4 write(0, 7, 70)", x.write(0, 7, 70), 4);
        Checks.due("P4 erase(0, 7) after write", x.erase(0, 7), 4);
        Checks.due("P4 has(2, 5) before the commit", x.has(2, 5), true);
        Checks.due("P4 commit(0)", x.commit(0), 3);
        Checks.due("P4 has(3, 5)", x.has(3, 5), false);
        Checks.due("P4 at(3, 5)", x.at(3, 5), 0);
        Checks.due("P4 has(3, 7)", x.has(3, 7), false);
        Checks.due("P4 at(3, 31)", x.at(3, 31), 311);
        Checks.due("P4 size(3)", x.size(3), 1);
        Checks.due("P4 at(2, 5): the old state stays", x.at(2, 5), 50);
        Checks.due("P4 changed(2, 3)", x.changed(2, 3), 4);
    }

    private static void eraseFull() {
        MeldLog x = new MeldLog();
        commitWrite(x, 0, 20, 200);
        x.begin(2);
        for (int key = 0; key < 3; key++) {
            x.write(2, key, 1);
            Checks.due("P4 erase(2, " + (key + 10) + ")", x.erase(2, key + 10), 2 * key + 2);
        }
        Checks.due("P4 erase(2, 20): a seventh key", x.erase(2, 20), MeldLog.FULL);
        Checks.due("P4 peek(2, 20) after FULL", x.peek(2, 20), 200);
        Checks.due("P4 write(2, 20, 1): a seventh key", x.write(2, 20, 1), MeldLog.FULL);
        Checks.due("P4 erase(2, 1): one of the six", x.erase(2, 1), 6);
        Checks.due("P4 write(2, 11, 5): one of the six", x.write(2, 11, 5), 6);
        Checks.due("P4 commit(2)", x.commit(2), 2);
        Checks.due("P4 at(2, 20)", x.at(2, 20), 200);
        Checks.due("P4 size(2)", x.size(2), 4);
    }

    private static void read() {
        MeldLog x = new MeldLog();
        commitWrite(x, 0, 0, 0);
        commitWrite(x, 0, 31, -7);
        x.begin(3);
        for (int t : NO_TRANSACTION) {
            Checks.due("P5 read(" + t + ", 0)", x.read(t, 0), MeldLog.BAD);
        }
        for (int key : NO_KEY) {
            Checks.due("P5 read(3, " + key + ")", x.read(3, key), MeldLog.BAD);
        }
        Checks.due("P5 read(2, 0)", x.read(2, 0), MeldLog.CLOSED);
        Checks.due("P5 read(3, 0) of the value 0", x.read(3, 0), 1);
        Checks.due("P5 read(3, 31)", x.read(3, 31), 1);
        Checks.due("P5 read(3, 1)", x.read(3, 1), 0);
        x.erase(3, 31);
        x.write(3, 1, 0);
        Checks.due("P5 read(3, 31) erased", x.read(3, 31), 0);
        Checks.due("P5 read(3, 1) written", x.read(3, 1), 1);
    }

    private static void readOfOwnWriteCounts() {
        MeldLog x = new MeldLog();
        x.begin(0);
        x.write(0, 4, 40);
        Checks.due("P5 read(0, 4) of the own write", x.read(0, 4), 1);
        commitWrite(x, 1, 4, 41);
        Checks.due("P5 commit(0): the own write was read", x.commit(0), MeldLog.CONFLICT);
        Checks.due("P5 at(1, 4)", x.at(1, 4), 41);
    }

    private static void peek() {
        MeldLog x = new MeldLog();
        commitWrite(x, 0, 0, 10);
        commitWrite(x, 0, 31, 20);
        Checks.due("P6 peek(0, 0) closed", x.peek(0, 0), 0);
        x.begin(0);
        x.begin(3);
        for (int t : NO_TRANSACTION) {
            Checks.due("P6 peek(" + t + ", 0)", x.peek(t, 0), 0);
        }
        for (int key : NO_KEY) {
            Checks.due("P6 peek(0, " + key + ")", x.peek(0, key), 0);
            Checks.due("P6 peek(3, " + key + ")", x.peek(3, key), 0);
        }
        Checks.due("P6 peek(0, 0)", x.peek(0, 0), 10);
        Checks.due("P6 peek(0, 31)", x.peek(0, 31), 20);
        Checks.due("P6 peek(0, 1)", x.peek(0, 1), 0);
        x.write(0, 0, 11);
        x.erase(0, 31);
        Checks.due("P6 peek(0, 0) written", x.peek(0, 0), 11);
        Checks.due("P6 peek(0, 31) erased", x.peek(0, 31), 0);
        Checks.due("P6 peek(3, 0): another view", x.peek(3, 0), 10);
        Checks.due("P6 peek(3, 31): another view", x.peek(3, 31), 20);
        x.abort(0);
        Checks.due("P6 peek(0, 0) after an abort", x.peek(0, 0), 0);
    }

    private static void peekDoesNotCountAsRead() {
        MeldLog x = new MeldLog();
        x.begin(0);
        x.peek(0, 5);
        x.write(0, 6, 60);
        commitWrite(x, 1, 5, 50);
        Checks.due("P6 commit(0): a peek is no read", x.commit(0), 2);
    }

    private static void viewStaysAtItsBase() {
        MeldLog x = new MeldLog();
        commitWrite(x, 0, 5, 50);
        commitWrite(x, 0, 6, 60);
        x.begin(3);
        for (int i = 0; i < 20; i++) {
            commitWrite(x, i % 3, 5, 100 + i);
            commitErase(x, i % 3, 6);
            commitWrite(x, i % 3, i + 7, i);
        }
        Checks.due("P6 size(2) is gone", x.size(2), MeldLog.GONE);
        Checks.due("P6 peek(3, 5) in a base no longer kept", x.peek(3, 5), 50);
        Checks.due("P6 peek(3, 6) in a base no longer kept", x.peek(3, 6), 60);
        Checks.due("P6 peek(3, 26) in a base no longer kept", x.peek(3, 26), 0);
        Checks.due("P5 read(3, 6) in a base no longer kept", x.read(3, 6), 1);
        Checks.due("P5 read(3, 7) in a base no longer kept", x.read(3, 7), 0);
        Checks.due("P7 countRange(3, 0, 31) in a base no longer kept", x.countRange(3, 0, 31), 2);
    }

    private static void countRange() {
        MeldLog x = new MeldLog();
        int[] keys = {0, 1, 15, 16, 31};
        x.begin(0);
        for (int key : keys) {
            x.write(0, key, 0);
        }
        x.commit(0);
        x.begin(0);
        for (int t : NO_TRANSACTION) {
            Checks.due("P7 countRange(" + t + ", 0, 31)", x.countRange(t, 0, 31), MeldLog.BAD);
        }
        for (int key : NO_KEY) {
            Checks.due("P7 countRange(0, " + key + ", 31)", x.countRange(0, key, 31), MeldLog.BAD);
            Checks.due("P7 countRange(0, 0, " + key + ")", x.countRange(0, 0, key), MeldLog.BAD);
        }
        Checks.due("P7 countRange(0, 1, 0)", x.countRange(0, 1, 0), MeldLog.BAD);
        Checks.due("P7 countRange(0, 31, 0)", x.countRange(0, 31, 0), MeldLog.BAD);
        Checks.due("P7 countRange(1, 0, 31)", x.countRange(1, 0, 31), MeldLog.CLOSED);
        Checks.due("P7 countRange(0, 0, 31)", x.countRange(0, 0, 31), 5);
        Checks.due("P7 countRange(0, 0, 0)", x.countRange(0, 0, 0), 1);
        Checks.due("P7 countRange(0, 31, 31)", x.countRange(0, 31, 31), 1);
        Checks.due("P7 countRange(0, 2, 14)", x.countRange(0, 2, 14), 0);
        Checks.due("P7 countRange(0, 1, 15)", x.countRange(0, 1, 15), 2);
        Checks.due("P7 countRange(0, 15, 16)", x.countRange(0, 15, 16), 2);
        x.erase(0, 31);
        x.write(0, 7, 1);
        x.write(0, 8, 1);
        Checks.due("P7 countRange(0, 16, 31) with an erasure", x.countRange(0, 16, 31), 1);
        Checks.due("P7 countRange(0, 2, 14) with writes", x.countRange(0, 2, 14), 2);
    }

    private static void countRangeCountsAsRead() {
        for (int key = 0; key < 32; key++) {
            MeldLog x = new MeldLog();
            x.begin(0);
            x.begin(1);
            x.countRange(0, 8, 20);
            x.countRange(1, 0, 31);
            x.countRange(1, 31, 31);
            commitWrite(x, 2, key, 1);
            boolean inside = key >= 8 && key <= 20;
            Checks.due("P7 commit(0) after a change of " + key, x.commit(0), inside ? MeldLog.CONFLICT : 2);
            Checks.due("P7 commit(1) after a change of " + key, x.commit(1), MeldLog.CONFLICT);
        }
    }

    private static void commitMelds() {
        MeldLog x = new MeldLog();
        for (int t : NO_TRANSACTION) {
            Checks.due("P8 commit(" + t + ")", x.commit(t), MeldLog.BAD);
        }
        Checks.due("P8 commit(1)", x.commit(1), MeldLog.CLOSED);
        commitWrite(x, 0, 1, 10);
        commitWrite(x, 0, 2, 20);
        for (int t = 0; t < 4; t++) {
            x.begin(t);
        }
        x.write(0, 1, 11);
        x.write(1, 1, 12);
        x.write(1, 3, 30);
        x.erase(2, 2);
        x.read(3, 4);
        Checks.due("P8 commit(0)", x.commit(0), 3);
        Checks.due("P8 commit(1): written alike, not read", x.commit(1), 4);
        Checks.due("P8 commit(2)", x.commit(2), 5);
        Checks.due("P8 commit(3): what it has read is as it was", x.commit(3), 6);
        Checks.due("P8 commit(0) again", x.commit(0), MeldLog.CLOSED);
        Checks.due("P8 at(3, 1)", x.at(3, 1), 11);
        Checks.due("P8 at(4, 1)", x.at(4, 1), 12);
        Checks.due("P8 at(4, 2)", x.at(4, 2), 20);
        Checks.due("P8 has(5, 2)", x.has(5, 2), false);
        Checks.due("P8 at(5, 1): the others' writes stay", x.at(5, 1), 12);
        Checks.due("P8 has(5, 3): the others' writes stay", x.has(5, 3), true);
        Checks.due("P8 has(6, 2): the others' erasures stay", x.has(6, 2), false);
        Checks.due("P8 at(6, 3): the others' writes stay", x.at(6, 3), 30);
        Checks.due("P8 size(6)", x.size(6), 2);
    }

    private static void commitConflicts() {
        MeldLog x = new MeldLog();
        commitWrite(x, 0, 5, 50);
        for (int t = 0; t < 4; t++) {
            x.begin(t);
        }
        x.read(0, 5);
        x.write(0, 6, 60);
        x.read(1, 7);
        x.read(2, 31);
        x.write(3, 5, 50);
        x.erase(3, 7);
        x.write(3, 31, 1);
        Checks.due("P8 commit(3)", x.commit(3), 2);
        Checks.due("P8 commit(0): the same value is a change", x.commit(0), MeldLog.CONFLICT);
        Checks.due("P8 commit(1): an erasure of nothing is a change", x.commit(1), MeldLog.CONFLICT);
        Checks.due("P8 commit(2): key 31", x.commit(2), MeldLog.CONFLICT);
        Checks.due("P8 latest(): no state is made", x.latest(), 2);
        Checks.due("P8 has(2, 6)", x.has(2, 6), false);
        Checks.due("P8 commit(0): closed all the same", x.commit(0), MeldLog.CLOSED);
        Checks.due("P8 begin(0): closed all the same", x.begin(0), 2);
        x.read(0, 5);
        Checks.due("P8 commit(0): the change made its base", x.commit(0), 3);
    }

    private static void commitConflictsWithAnyStateSinceTheBase() {
        for (int before = 0; before < 10; before++) {
            for (int after = 0; after < 10; after++) {
                MeldLog x = new MeldLog();
                commitWrite(x, 1, 9, 1);
                x.begin(0);
                x.read(0, 9);
                for (int i = 0; i < before; i++) {
                    commitWrite(x, 1, 8, i);
                }
                x.begin(2);
                x.read(2, 9);
                commitErase(x, 1, 9);
                x.begin(3);
                x.read(3, 9);
                for (int i = 0; i < after; i++) {
                    commitWrite(x, 1, 10, i);
                }
                String when = " with " + before + " states before and " + after + " after";
                Checks.due("P8 commit(0)" + when, x.commit(0), MeldLog.CONFLICT);
                Checks.due("P8 commit(2)" + when, x.commit(2), MeldLog.CONFLICT);
                Checks.due("P8 commit(3)" + when, x.commit(3), before + after + 3);
            }
        }
    }

    private static void commitOfNothing() {
        MeldLog x = new MeldLog();
        commitWrite(x, 0, 5, 50);
        Checks.due("P8 begin(0)", x.begin(0), 1);
        Checks.due("P8 commit(0) of nothing", x.commit(0), 2);
        Checks.due("P8 latest()", x.latest(), 2);
        Checks.due("P8 at(2, 5)", x.at(2, 5), 50);
        Checks.due("P8 changed(1, 2)", x.changed(1, 2), 0);
        x.begin(0);
        x.read(0, 5);
        commitWrite(x, 1, 5, 51);
        Checks.due("P8 commit(0) of reads alone", x.commit(0), MeldLog.CONFLICT);
    }

    private static void abort() {
        MeldLog x = new MeldLog();
        for (int t : NO_TRANSACTION) {
            Checks.due("P9 abort(" + t + ")", x.abort(t), MeldLog.BAD);
        }
        Checks.due("P9 abort(2)", x.abort(2), MeldLog.CLOSED);
        x.begin(2);
        Checks.due("P9 abort(2) of nothing", x.abort(2), 0);
        Checks.due("P9 abort(2) again", x.abort(2), MeldLog.CLOSED);
        x.begin(2);
        x.write(2, 1, 1);
        x.write(2, 1, 2);
        x.erase(2, 31);
        x.read(2, 7);
        Checks.due("P9 abort(2)", x.abort(2), 2);
        Checks.due("P9 commit(2)", x.commit(2), MeldLog.CLOSED);
        Checks.due("P9 latest()", x.latest(), 0);
        Checks.due("P9 has(0, 1)", x.has(0, 1), false);
        x.begin(2);
        for (int key = 0; key < 7; key++) {
            x.write(2, key, 1);
        }
        Checks.due("P9 abort(2) when full", x.abort(2), 6);
        x.begin(0);
        x.begin(1);
        x.write(0, 1, 1);
        x.read(1, 1);
        x.abort(0);
        Checks.due("P9 commit(1): an aborted write is no change", x.commit(1), 1);
    }
}
