import java.util.function.Consumer;

/** Promise 2: begin. */
public final class BeginTest {
    public static void main(String[] args) {
        opensThatTransactionAlone();
        baseIsTheLatestState();
        hasWrittenNothing();
        hasReadNothing();
        transactionOutsideIsBad();
        openIsOpen();
        openWhateverWasDoneInIt();
        closedIsNotOpen();
        answersTheBase();
        Checks.finish();
    }

    /** "Opens a transaction": that one. */
    private static void opensThatTransactionAlone() {
        for (int t = 0; t < 4; t++) {
            Log x = new Log("P2 begin opens that transaction, and no other");
            x.begin(t).is(0);
            for (int other = 0; other < 4; other++) {
                x.read(other, 0).is(other == t ? 0 : MeldLog.CLOSED);
            }
        }
    }

    /** "its base is the latest state": also where states have ceased to be kept. */
    private static void baseIsTheLatestState() {
        for (int last = 0; last <= 20; last++) {
            Log x = new Log("P2 the base is the latest state");
            x.commitStates(0, last);
            x.begin(1).is(last);
            for (int key = 0; key <= 21; key++) {
                x.peek(1, key).is(1 <= key && key <= last ? 100 + key : 0);
            }
            x.countRange(1, 0, 31).is(last);
        }
    }

    /** Leads transaction 0 to its end in each way, after it has written six keys and read all. */
    private static Log afterEnd(String sentence, Consumer<Log> end) {
        Log x = new Log(sentence);
        x.commitWrite(0, 20, 200);
        x.begin(0);
        x.writeKeys(0, 0, 5);
        x.erase(0, 20);
        x.countRange(0, 0, 31);
        end.accept(x);
        return x;
    }

    private static void conflict(Log x) {
        x.commitWrite(1, 10, 1);
        x.commit(0).is(MeldLog.CONFLICT);
    }

    /** "it has written ... nothing" */
    private static void hasWrittenNothing() {
        Log aborted = afterEnd("P2 nothing is written after an abort", x -> x.abort(0).is(6));
        Log inConflict = afterEnd("P2 nothing is written after a conflict", BeginTest::conflict);
        for (Log x : new Log[] {aborted, inConflict}) {
            x.begin(0);
            for (int key = 0; key < 5; key++) {
                x.peek(0, key).is(0);
            }
            x.peek(0, 20).is(200);
        }
        Log committed = afterEnd("P2 nothing is written after a commit", x -> x.commit(0).is(2));
        committed.begin(0);
        for (Log x : new Log[] {aborted, inConflict, committed}) {
            x.abort(0).is(0);
            x.begin(0);
            for (int key = 0; key < 6; key++) {
                x.write(0, 25 + key, 1).is(key + 1);
            }
        }
    }

    /** "it has ... read nothing" */
    private static void hasReadNothing() {
        Log aborted = afterEnd("P2 nothing is read after an abort", x -> x.abort(0).is(6));
        Log inConflict = afterEnd("P2 nothing is read after a conflict", BeginTest::conflict);
        Log committed = afterEnd("P2 nothing is read after a commit", x -> x.commit(0).is(2));
        for (Log x : new Log[] {aborted, inConflict, committed}) {
            int base = x.begin(0).got;
            x.commitAllKeys(1);
            x.commit(0).is(base + 7);
        }
    }

    /** "t outside 0..3: BAD" */
    private static void transactionOutsideIsBad() {
        Refusals.transactionOutsideIsBad("P2", (x, t) -> x.begin(t));
    }

    /** "it is open: OPEN" */
    private static void openIsOpen() {
        Log x = new Log("P2 an open one is OPEN");
        for (int t = 0; t < 4; t++) {
            x.begin(t).is(0);
            for (int other = 0; other <= t; other++) {
                x.begin(other).is(MeldLog.OPEN);
            }
        }
    }

    /** "it is open: OPEN": with reads, full, and with a base that is no longer kept. */
    private static void openWhateverWasDoneInIt() {
        Log x = new Log("P2 an open one is OPEN, whatever was done in it");
        x.begin(2);
        x.countRange(2, 0, 31);
        x.begin(2).is(MeldLog.OPEN);
        x.writeKeys(2, 0, 6);
        x.begin(2).is(MeldLog.OPEN);
        x.write(2, 6, 1).is(MeldLog.FULL);
        x.begin(2).is(MeldLog.OPEN);
        x.commitNothing(0, 20);
        x.begin(2).is(MeldLog.OPEN);
    }

    /** "it is open: OPEN": not once it is closed, in whichever way. */
    private static void closedIsNotOpen() {
        afterEnd("P2 an aborted one is not OPEN", x -> x.abort(0)).begin(0).is(1);
        afterEnd("P2 a committed one is not OPEN", x -> x.commit(0)).begin(0).is(2);
        afterEnd("P2 one in conflict is not OPEN", BeginTest::conflict).begin(0).is(2);
    }

    /** "Else answers the base's number." */
    private static void answersTheBase() {
        Log x = new Log("P2 begin answers the base's number");
        for (int state = 0; state < 128; state++) {
            x.begin(state % 4).is(state);
            x.begin((state + 1) % 4).is(state);
            x.commit(state % 4);
            x.abort((state + 1) % 4);
        }
    }
}
