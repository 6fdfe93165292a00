/** Promise 5: read. */
public final class ReadTest {
    public static void main(String[] args) {
        oneIfItHasAValue();
        oneWhateverTheValue();
        answersFromTheView();
        countsAsReadFromThenOn();
        noOtherKeyCounts();
        noOtherTransactionHasRead();
        readOfNoValueCounts();
        readOfOwnChangeCounts();
        changeAfterTheReadLeavesIt();
        readAfterTheChangeCounts();
        allKeysCanBeRead();
        transactionOutsideIsBad();
        keyOutsideIsBad();
        notOpenIsClosed();
        fullIsNoRefusal();
        Checks.finish();
    }

    /** "1 if it has a value in the view, else 0" */
    private static void oneIfItHasAValue() {
        for (int key = 0; key < 32; key++) {
            Log x = new Log("P5 read answers 1 for a key with a value, else 0");
            x.commitWrite(0, key, 5);
            x.begin(3);
            for (int each = 0; each < 32; each++) {
                x.read(3, each).is(each == key ? 1 : 0);
            }
        }
    }

    /** "1 if it has a value in the view": any int is one, 0 too. */
    private static void oneWhateverTheValue() {
        for (int value : Edges.ANY_VALUE) {
            Log x = new Log("P5 read answers 1 whatever the value");
            x.commitWrite(0, 0, value);
            x.commitWrite(0, 31, value);
            x.begin(0);
            x.read(0, 0).is(1);
            x.read(0, 31).is(1);
            x.read(0, 1).is(0);
            x.read(0, 30).is(0);
        }
    }

    /** "in the view": with its own writes and erasures, and none of the others'. */
    private static void answersFromTheView() {
        Log x = new Log("P5 read answers from the view");
        x.commitWrite(0, 0, 5);
        x.begin(0);
        x.begin(1);
        x.erase(0, 0);
        x.write(0, 31, 0);
        x.read(0, 0).is(0);
        x.read(0, 31).is(1);
        x.read(1, 0).is(1);
        x.read(1, 31).is(0);
        x.write(0, 0, 0);
        x.erase(0, 31);
        x.read(0, 0).is(1);
        x.read(0, 31).is(0);
        x.commit(0);
        x.read(1, 0).is(1);
    }

    /** "which counts as read from then on": each of the 32 keys, in each of the four transactions. */
    private static void countsAsReadFromThenOn() {
        for (int t = 0; t < 4; t++) {
            for (int key = 0; key < 32; key++) {
                Log x = new Log("P5 a key counts as read from then on");
                x.commitWrite(t, key, 5);
                x.begin(t);
                x.read(t, key).is(1);
                x.read(t, (key + 7) % 32).is(0);
                x.write(t, (key + 9) % 32, 1);
                x.commitWrite((t + 1) % 4, key, 6);
                x.commit(t).is(MeldLog.CONFLICT);
            }
        }
    }

    /** "a key ... which counts as read": the one that was read, not those beside it. */
    private static void noOtherKeyCounts() {
        for (int key = 0; key < 32; key++) {
            Log x = new Log("P5 only the key that was read counts as read");
            x.begin(0);
            x.read(0, key).is(0);
            for (int each = 0; each < 32; each++) {
                if (each != key) {
                    x.commitWrite(1, each, 6);
                }
            }
            x.commit(0).is(32);
        }
    }

    /** "Reads a key in a transaction": in that one. */
    private static void noOtherTransactionHasRead() {
        Readings.areThatTransactionsAlone("P5", (x, t) -> x.read(t, 9));
    }

    /** "which counts as read": also where the answer was 0. */
    private static void readOfNoValueCounts() {
        Log x = new Log("P5 a key without a value counts as read");
        x.begin(0);
        x.read(0, 4).is(0);
        x.commitWrite(1, 4, 40);
        x.commit(0).is(MeldLog.CONFLICT);
    }

    /** "which counts as read": also where the transaction itself gave what it reads. */
    private static void readOfOwnChangeCounts() {
        Log x = new Log("P5 an own write or erasure counts as read");
        x.begin(0);
        x.begin(1);
        x.write(0, 4, 40);
        x.read(0, 4).is(1);
        x.erase(1, 4);
        x.read(1, 4).is(0);
        x.commitWrite(3, 4, 42);
        x.commit(0).is(MeldLog.CONFLICT);
        x.commit(1).is(MeldLog.CONFLICT);
        x.at(1, 4).is(42);
    }

    /** "from then on": what the transaction does with the key later takes nothing back. */
    private static void changeAfterTheReadLeavesIt() {
        Log x = new Log("P5 a key stays read when it is written or erased");
        x.begin(0);
        x.begin(1);
        x.begin(2);
        x.read(0, 4).is(0);
        x.write(0, 4, 40);
        x.read(1, 4).is(0);
        x.erase(1, 4);
        x.read(2, 4).is(0);
        x.peek(2, 4);
        x.read(2, 5);
        x.commitWrite(3, 4, 42);
        x.commit(0).is(MeldLog.CONFLICT);
        x.commit(1).is(MeldLog.CONFLICT);
        x.commit(2).is(MeldLog.CONFLICT);
    }

    /** "from then on": what matters is the change since the base, be it before the read. */
    private static void readAfterTheChangeCounts() {
        Log x = new Log("P5 a key changed before it was read conflicts too");
        x.begin(0);
        x.commitWrite(1, 4, 40);
        x.read(0, 4).is(0);
        x.commit(0).is(MeldLog.CONFLICT);
        x.begin(0);
        x.read(0, 4).is(1);
        x.commit(0).is(2);
    }

    /** "which counts as read": there is no limit to what is read. */
    private static void allKeysCanBeRead() {
        for (int key = 0; key < 32; key++) {
            Log x = new Log("P5 all keys can be read and count");
            x.begin(0);
            for (int each = 0; each < 32; each++) {
                x.read(0, each).is(0);
                x.read(0, each).is(0);
            }
            x.commitErase(1, key);
            x.commit(0).is(MeldLog.CONFLICT);
        }
    }

    /** "BAD ... as in write": "t outside 0..3" */
    private static void transactionOutsideIsBad() {
        Refusals.transactionOutsideIsBad("P5", (x, t) -> x.read(t, 31));
    }

    /** "BAD ... as in write": "key outside 0..31" */
    private static void keyOutsideIsBad() {
        Refusals.keyOutsideIsBad("P5", (x, t, key) -> x.read(t, key));
    }

    /** "CLOSED as in write" */
    private static void notOpenIsClosed() {
        Refusals.notOpenIsClosed("P5", (x, t) -> x.read(t, 0));
    }

    /** "BAD and CLOSED as in write", and not FULL. */
    private static void fullIsNoRefusal() {
        Log x = new Log("P5 a full transaction can read");
        x.begin(0);
        x.writeKeys(0, 0, 6);
        x.read(0, 0).is(1);
        x.read(0, 6).is(0);
    }
}
