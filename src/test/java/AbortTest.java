/** Promise 9: abort. */
public final class AbortTest {
    public static void main(String[] args) {
        closesThatTransactionAlone();
        commitsNothing();
        transactionOutsideIsBad();
        notOpenIsClosed();
        answersTheNumberOfKeys();
        answersEachKeyOnce();
        readsAreNotCounted();
        conflictIsNoRefusal();
        Checks.finish();
    }

    /** "Closes a transaction": that one. */
    private static void closesThatTransactionAlone() {
        for (int t = 0; t < 4; t++) {
            Log x = new Log("P9 abort closes that transaction, and no other");
            x.beginAll();
            x.abort(t).is(0);
            x.abort(t).is(MeldLog.CLOSED);
            x.commit(t).is(MeldLog.CLOSED);
            for (int other = 0; other < 4; other++) {
                x.begin(other).is(other == t ? 0 : MeldLog.OPEN);
            }
        }
    }

    /** "without a commit" */
    private static void commitsNothing() {
        Log x = new Log("P9 abort commits nothing");
        x.commitWrite(0, 5, 50);
        x.begin(0);
        x.write(0, 6, 60);
        x.erase(0, 5);
        x.begin(1);
        x.countRange(1, 0, 31);
        x.abort(0).is(2);
        x.latest().is(1);
        x.size(2).is(MeldLog.BAD);
        x.size(1).is(1);
        x.at(1, 5).is(50);
        x.has(1, 6).is(false);
        x.commit(1).is(2);
        x.changed(1, 2).is(0);
        x.at(2, 5).is(50);
        x.has(2, 6).is(false);
    }

    /** "BAD ... as above": "t outside 0..3" */
    private static void transactionOutsideIsBad() {
        Refusals.transactionOutsideIsBad("P9", (x, t) -> x.abort(t));
    }

    /** "CLOSED as above" */
    private static void notOpenIsClosed() {
        Refusals.notOpenIsClosed("P9", (x, t) -> x.abort(t));
    }

    /** "Else answers the number of keys that it had written or erased.": from none to six, and no more than six. */
    private static void answersTheNumberOfKeys() {
        for (int written = 0; written <= 6; written++) {
            for (int erased = 0; erased <= 6; erased++) {
                Log x = new Log("P9 abort answers the number of keys");
                x.begin(2);
                x.writeKeys(2, 31 - written, written);
                for (int key = 0; key < erased; key++) {
                    x.erase(2, key);
                }
                x.abort(2).is(Math.min(6, written + erased));
            }
        }
    }

    /** "the number of keys": not of calls. */
    private static void answersEachKeyOnce() {
        Log x = new Log("P9 abort answers each key once");
        x.begin(2);
        x.write(2, 0, 1);
        x.write(2, 0, 2);
        x.erase(2, 0);
        x.erase(2, 31);
        x.erase(2, 31);
        x.write(2, 31, 3);
        x.abort(2).is(2);
        x.begin(2);
        x.abort(2).is(0);
    }

    /** "that it had written or erased" */
    private static void readsAreNotCounted() {
        Log x = new Log("P9 abort does not count what was read");
        x.commitAllKeys(0);
        x.begin(0);
        x.countRange(0, 0, 31);
        x.read(0, 3);
        x.peek(0, 4);
        x.abort(0).is(0);
    }

    /** "BAD, CLOSED as above", and not CONFLICT. */
    private static void conflictIsNoRefusal() {
        Log x = new Log("P9 abort knows no CONFLICT");
        x.begin(0);
        x.read(0, 3);
        x.write(0, 4, 1);
        x.commitWrite(1, 3, 1);
        x.abort(0).is(1);
    }
}
