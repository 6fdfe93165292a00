/** The refusals that several promises name in the same words; each test that uses them gives its own call. */
final class Refusals {
    interface InTransaction {
        Log.Answer call(Log x, int t);
    }

    interface OfKey {
        Log.Answer call(Log x, int t, int key);
    }

    private Refusals() {
    }

    /** "t outside 0..3: BAD": whether all are open or none. */
    static void transactionOutsideIsBad(String promise, InTransaction it) {
        Log closed = new Log(promise + " t outside 0..3 is BAD, all closed");
        Log open = new Log(promise + " t outside 0..3 is BAD, all open");
        open.beginAll();
        for (int t : Edges.NO_TRANSACTION) {
            it.call(closed, t).is(MeldLog.BAD);
            it.call(open, t).is(MeldLog.BAD);
        }
        it.call(open, 0).isNot(MeldLog.BAD);
        it.call(open, 3).isNot(MeldLog.BAD);
    }

    /** "key outside 0..31: BAD": with a value in every key that could be taken for it. */
    static void keyOutsideIsBad(String promise, OfKey it) {
        Log x = new Log(promise + " a key outside 0..31 is BAD");
        x.commitAllKeys(0);
        x.beginAll();
        for (int key : Edges.NO_KEY) {
            for (int t = 0; t < 4; t++) {
                it.call(x, t, key).is(MeldLog.BAD);
            }
        }
        for (int t = 0; t < 4; t++) {
            it.call(x, t, 0).isNot(MeldLog.BAD);
            it.call(x, t, 31).isNot(MeldLog.BAD);
        }
    }

    /** "t is not open: CLOSED": before it is begun, whichever others are, and after each of its ends. */
    static void notOpenIsClosed(String promise, InTransaction it) {
        for (int t = 0; t < 4; t++) {
            Log x = new Log(promise + " one that is not open is CLOSED");
            it.call(x, t).is(MeldLog.CLOSED);
            for (int other = 0; other < 4; other++) {
                if (other != t) {
                    x.begin(other);
                }
            }
            it.call(x, t).is(MeldLog.CLOSED);
            commitThenCall(x, t, it);
            abortThenCall(x, t, it);
            conflictThenCall(x, t, it);
            x.begin(t);
            it.call(x, t).isNot(MeldLog.CLOSED);
        }
    }

    private static void commitThenCall(Log x, int t, InTransaction it) {
        x.begin(t).is(0);
        x.writeKeys(t, 0, 2);
        x.commit(t).is(1);
        it.call(x, t).is(MeldLog.CLOSED);
    }

    private static void abortThenCall(Log x, int t, InTransaction it) {
        x.begin(t).is(1);
        x.writeKeys(t, 0, 2);
        x.abort(t).is(2);
        it.call(x, t).is(MeldLog.CLOSED);
    }

    private static void conflictThenCall(Log x, int t, InTransaction it) {
        int other = (t + 1) % 4;
        x.begin(t).is(1);
        x.writeKeys(t, 0, 2);
        x.read(t, 9);
        x.write(other, 9, 1);
        x.commit(other).is(2);
        x.commit(t).is(MeldLog.CONFLICT);
        it.call(x, t).is(MeldLog.CLOSED);
    }
}
