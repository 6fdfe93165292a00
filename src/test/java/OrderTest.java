import java.util.function.Consumer;
import java.util.function.Function;

/** Promise 15: the order of refusals, and that a refused call changes nothing. */
public final class OrderTest {
    public static void main(String[] args) {
        badBeforeClosed();
        badBeforeFull();
        closedBeforeFull();
        closedBeforeConflict();
        badBeforeGoneInSize();
        badBeforeGoneInChanged();
        refusedBeginChangesNothing();
        refusedWriteChangesNothing();
        refusedEraseChangesNothing();
        refusedReadChangesNothing();
        refusedPeekChangesNothing();
        refusedCountRangeChangesNothing();
        refusedCommitChangesNothing();
        conflictChangesNoMoreThanAnAbort();
        refusedAbortChangesNothing();
        refusedQuestionsChangeNothing();
        refusedCallsOnANewObjectChangeNothing();
        answeredQuestionsChangeNothing();
        Checks.finish();
    }

    /** "In each call refusals are tested in the order in which they are named": BAD, in one that is not open. */
    private static void badBeforeClosed() {
        for (int t = 0; t < 4; t++) {
            Log x = new Log("P15 BAD comes before CLOSED");
            for (int key : Edges.NO_KEY) {
                x.write(t, key, 1).is(MeldLog.BAD);
                x.erase(t, key).is(MeldLog.BAD);
                x.read(t, key).is(MeldLog.BAD);
                x.countRange(t, key, 31).is(MeldLog.BAD);
                x.countRange(t, 0, key).is(MeldLog.BAD);
                x.countRange(t, key, key).is(MeldLog.BAD);
            }
            x.countRange(t, 1, 0).is(MeldLog.BAD);
            x.countRange(t, 31, 30).is(MeldLog.BAD);
            x.countRange(t, 31, 0).is(MeldLog.BAD);
            x.countRange(t, 0, 0).is(MeldLog.CLOSED);
            x.write(t, 0, 1).is(MeldLog.CLOSED);
        }
        Log y = new Log("P15 BAD is BAD for more than one reason");
        for (int t : Edges.NO_TRANSACTION) {
            y.write(t, 32, 1).is(MeldLog.BAD);
            y.erase(t, -1).is(MeldLog.BAD);
            y.read(t, 32).is(MeldLog.BAD);
            y.countRange(t, 32, -1).is(MeldLog.BAD);
            y.countRange(t, 4, 3).is(MeldLog.BAD);
        }
    }

    /** "write and erase: BAD, CLOSED, FULL": a key out of range, in one that is full. */
    private static void badBeforeFull() {
        Log x = new Log("P15 BAD comes before FULL");
        x.beginAll();
        for (int t = 0; t < 4; t++) {
            x.writeKeys(t, 0, 6);
        }
        for (int key : Edges.NO_KEY) {
            for (int t = 0; t < 4; t++) {
                x.write(t, key, 1).is(MeldLog.BAD);
                x.erase(t, key).is(MeldLog.BAD);
            }
        }
        for (int t : Edges.NO_TRANSACTION) {
            x.write(t, 6, 1).is(MeldLog.BAD);
            x.erase(t, 6).is(MeldLog.BAD);
        }
        x.write(0, 6, 1).is(MeldLog.FULL);
        x.erase(0, 6).is(MeldLog.FULL);
    }

    /** "write and erase: BAD, CLOSED, FULL": one that was full when it was closed. */
    private static void closedBeforeFull() {
        Log x = new Log("P15 CLOSED comes before FULL");
        x.begin(0);
        x.writeKeys(0, 0, 6);
        x.commit(0).is(1);
        x.write(0, 6, 1).is(MeldLog.CLOSED);
        x.erase(0, 6).is(MeldLog.CLOSED);
        x.begin(0);
        x.writeKeys(0, 0, 6);
        x.abort(0).is(6);
        x.write(0, 6, 1).is(MeldLog.CLOSED);
        x.erase(0, 6).is(MeldLog.CLOSED);
        x.begin(0);
        x.writeKeys(0, 0, 6);
        x.read(0, 9);
        x.commitWrite(1, 9, 1);
        x.commit(0).is(MeldLog.CONFLICT);
        x.write(0, 6, 1).is(MeldLog.CLOSED);
        x.erase(0, 6).is(MeldLog.CLOSED);
        x.write(0, 32, 1).is(MeldLog.BAD);
        x.erase(0, 32).is(MeldLog.BAD);
    }

    /** commit: "BAD, CLOSED as above", then CONFLICT: one that had read what is changed when it was closed. */
    private static void closedBeforeConflict() {
        Log x = new Log("P15 CLOSED comes before CONFLICT");
        x.begin(0);
        x.read(0, 9);
        x.begin(1);
        x.read(1, 9);
        x.commitWrite(2, 9, 1);
        x.abort(0);
        x.commit(0).is(MeldLog.CLOSED);
        x.commit(1).is(MeldLog.CONFLICT);
        x.commit(1).is(MeldLog.CLOSED);
    }

    /** size: "BAD ...; GONE ...": a state that is not there is not kept either. */
    private static void badBeforeGoneInSize() {
        Log x = new Log("P15 BAD comes before GONE in size");
        x.commitNothing(0, 9);
        for (int state : Edges.noState(9)) {
            x.size(state).is(MeldLog.BAD);
        }
        x.size(0).is(MeldLog.GONE);
        x.size(3).is(MeldLog.GONE);
    }

    /** changed: "BAD ...; GONE ..." */
    private static void badBeforeGoneInChanged() {
        Log x = new Log("P15 BAD comes before GONE in changed");
        x.commitNothing(0, 9);
        for (int gone = 0; gone <= 3; gone++) {
            for (int state : Edges.noState(9)) {
                x.changed(gone, state).is(MeldLog.BAD);
                x.changed(state, gone).is(MeldLog.BAD);
            }
            for (int s = gone; s <= 9; s++) {
                x.changed(s, gone).is(MeldLog.BAD);
            }
            x.changed(gone, 9).is(MeldLog.GONE);
        }
    }

    /**
     * Every kind of transaction: 0 is full, has read, and its base is no longer kept; 1 has read what is changed
     * since; 2 is closed, but had written and read; 3 is as it was begun. The states 5 to 10 are kept.
     */
    private static void lead(Log x) {
        x.commitWrite(3, 0, 100);
        x.commitWrite(3, 31, 131);
        x.commitWrite(3, 10, 110);
        x.begin(0);
        x.write(0, 0, 50);
        x.write(0, 1, 51);
        x.erase(0, 31);
        x.write(0, 3, 53);
        x.erase(0, 4);
        x.write(0, 5, 0);
        x.read(0, 15);
        x.countRange(0, 20, 22);
        x.commitWrite(2, 1, 11);
        x.commitNothing(2, 1);
        x.commitWrite(2, 12, 0);
        x.commitErase(2, 10);
        x.commitWrite(2, 13, -1);
        x.commitWrite(2, 14, 14);
        x.begin(1);
        x.write(1, 1, 61);
        x.erase(1, 12);
        x.read(1, 2);
        x.read(1, 31);
        x.commitWrite(2, 2, 22);
        x.begin(2);
        x.write(2, 7, 70);
        x.countRange(2, 0, 31);
        x.abort(2);
        x.begin(3);
    }

    private static void changesNothing(String sentence, Function<Log, Log.Answer> call, int due) {
        changesNothing(sentence, OrderTest::lead, call, due);
    }

    private static void changesNothing(String sentence, Consumer<Log> lead, Function<Log, Log.Answer> call, int due) {
        Twins.areAlike("P15 the call changes nothing: " + sentence, lead.andThen(x -> call.apply(x).is(due)), lead);
    }

    /** "a refused call changes nothing": BAD and OPEN. */
    private static void refusedBeginChangesNothing() {
        for (int t : new int[] {-1, 4, Edges.MIN, Edges.MAX}) {
            changesNothing("begin, BAD", x -> x.begin(t), MeldLog.BAD);
        }
        for (int t : new int[] {0, 1, 3}) {
            changesNothing("begin, OPEN", x -> x.begin(t), MeldLog.OPEN);
        }
    }

    /** "a refused call changes nothing": BAD, CLOSED and FULL. */
    private static void refusedWriteChangesNothing() {
        for (int t : new int[] {-1, 4, Edges.MIN, Edges.MAX}) {
            changesNothing("write, BAD transaction", x -> x.write(t, 2, 9), MeldLog.BAD);
        }
        for (int key : new int[] {-1, 32, Edges.MIN, Edges.MAX}) {
            changesNothing("write, BAD key", x -> x.write(1, key, 9), MeldLog.BAD);
        }
        changesNothing("write, CLOSED", x -> x.write(2, 2, 9), MeldLog.CLOSED);
        changesNothing("write, CLOSED", x -> x.write(2, 7, 9), MeldLog.CLOSED);
        changesNothing("write, FULL", x -> x.write(0, 2, 9), MeldLog.FULL);
        changesNothing("write, FULL", x -> x.write(0, 10, 9), MeldLog.FULL);
    }

    /** "a refused call changes nothing": BAD, CLOSED and FULL. */
    private static void refusedEraseChangesNothing() {
        for (int t : new int[] {-1, 4, Edges.MIN, Edges.MAX}) {
            changesNothing("erase, BAD transaction", x -> x.erase(t, 0), MeldLog.BAD);
        }
        for (int key : new int[] {-1, 32, Edges.MIN, Edges.MAX}) {
            changesNothing("erase, BAD key", x -> x.erase(1, key), MeldLog.BAD);
        }
        changesNothing("erase, CLOSED", x -> x.erase(2, 0), MeldLog.CLOSED);
        changesNothing("erase, CLOSED", x -> x.erase(2, 7), MeldLog.CLOSED);
        changesNothing("erase, FULL", x -> x.erase(0, 2), MeldLog.FULL);
        changesNothing("erase, FULL", x -> x.erase(0, 10), MeldLog.FULL);
    }

    /** "a refused call changes nothing": BAD and CLOSED; nothing counts as read. */
    private static void refusedReadChangesNothing() {
        for (int t : new int[] {-1, 4, Edges.MIN, Edges.MAX}) {
            changesNothing("read, BAD transaction", x -> x.read(t, 0), MeldLog.BAD);
        }
        for (int key : new int[] {-1, 32, Edges.MIN, Edges.MAX}) {
            changesNothing("read, BAD key", x -> x.read(3, key), MeldLog.BAD);
        }
        changesNothing("read, CLOSED", x -> x.read(2, 0), MeldLog.CLOSED);
    }

    /** "a refused call changes nothing": the cases that peek answers with 0. */
    private static void refusedPeekChangesNothing() {
        for (int number : new int[] {-1, 32, Edges.MIN, Edges.MAX}) {
            changesNothing("peek, t out of range", x -> x.peek(number, 0), 0);
            changesNothing("peek, key out of range", x -> x.peek(3, number), 0);
        }
        changesNothing("peek, t is not open", x -> x.peek(2, 0), 0);
    }

    /** "a refused call changes nothing": BAD and CLOSED; nothing counts as read. */
    private static void refusedCountRangeChangesNothing() {
        for (int t : new int[] {-1, 4, Edges.MIN, Edges.MAX}) {
            changesNothing("countRange, BAD transaction", x -> x.countRange(t, 0, 31), MeldLog.BAD);
        }
        for (int key : new int[] {-1, 32, Edges.MIN, Edges.MAX}) {
            changesNothing("countRange, BAD low", x -> x.countRange(3, key, 31), MeldLog.BAD);
            changesNothing("countRange, BAD high", x -> x.countRange(3, 0, key), MeldLog.BAD);
        }
        changesNothing("countRange, low > high", x -> x.countRange(3, 1, 0), MeldLog.BAD);
        changesNothing("countRange, low > high", x -> x.countRange(3, 31, 0), MeldLog.BAD);
        changesNothing("countRange, CLOSED", x -> x.countRange(2, 0, 31), MeldLog.CLOSED);
    }

    /** "a refused call changes nothing": BAD and CLOSED. */
    private static void refusedCommitChangesNothing() {
        for (int t : new int[] {-1, 4, Edges.MIN, Edges.MAX}) {
            changesNothing("commit, BAD", x -> x.commit(t), MeldLog.BAD);
        }
        changesNothing("commit, CLOSED", x -> x.commit(2), MeldLog.CLOSED);
    }

    /** "a refused call changes nothing": a CONFLICT closes the transaction, as an abort does, and no more. */
    private static void conflictChangesNoMoreThanAnAbort() {
        Consumer<Log> lead = OrderTest::lead;
        Twins.areAlike("P15 a CONFLICT closes the transaction and changes nothing else",
            lead.andThen(x -> x.commit(1).is(MeldLog.CONFLICT)), lead.andThen(x -> x.abort(1).is(2)));
    }

    /** "a refused call changes nothing": BAD and CLOSED. */
    private static void refusedAbortChangesNothing() {
        for (int t : new int[] {-1, 4, Edges.MIN, Edges.MAX}) {
            changesNothing("abort, BAD", x -> x.abort(t), MeldLog.BAD);
        }
        changesNothing("abort, CLOSED", x -> x.abort(2), MeldLog.CLOSED);
    }

    /** "a refused call changes nothing": the cases that has and at answer with false and 0; BAD and GONE. */
    private static void refusedQuestionsChangeNothing() {
        for (int state : new int[] {-1, 11, Edges.MIN, Edges.MAX}) {
            changesNothing("has, not there", x -> x.has(state, 0), 0);
            changesNothing("at, not there", x -> x.at(state, 0), 0);
            changesNothing("size, BAD", x -> x.size(state), MeldLog.BAD);
            changesNothing("changed, BAD s", x -> x.changed(state, 10), MeldLog.BAD);
            changesNothing("changed, BAD t", x -> x.changed(5, state), MeldLog.BAD);
        }
        for (int key : new int[] {-1, 32, Edges.MIN, Edges.MAX}) {
            changesNothing("has, key outside", x -> x.has(10, key), 0);
            changesNothing("at, key outside", x -> x.at(10, key), 0);
        }
        changesNothing("has, not kept", x -> x.has(4, 0), 0);
        changesNothing("at, not kept", x -> x.at(4, 0), 0);
        changesNothing("size, GONE", x -> x.size(4), MeldLog.GONE);
        changesNothing("changed, s >= t", x -> x.changed(10, 10), MeldLog.BAD);
        changesNothing("changed, GONE", x -> x.changed(4, 10), MeldLog.GONE);
    }

    private static void onNew(String sentence, Function<Log, Log.Answer> call, int due) {
        changesNothing(sentence + ", on a new object", x -> { }, call, due);
    }

    /** "a refused call changes nothing": with all transactions as they were made, and state 0 alone. */
    private static void refusedCallsOnANewObjectChangeNothing() {
        onNew("begin, BAD", x -> x.begin(4), MeldLog.BAD);
        onNew("write, BAD", x -> x.write(0, 32, 9), MeldLog.BAD);
        onNew("write, CLOSED", x -> x.write(0, 31, 9), MeldLog.CLOSED);
        onNew("erase, BAD", x -> x.erase(0, -1), MeldLog.BAD);
        onNew("erase, CLOSED", x -> x.erase(1, 0), MeldLog.CLOSED);
        onNew("read, BAD", x -> x.read(0, 32), MeldLog.BAD);
        onNew("read, CLOSED", x -> x.read(2, 31), MeldLog.CLOSED);
        onNew("peek, t is not open", x -> x.peek(3, 0), 0);
        onNew("countRange, BAD", x -> x.countRange(0, 1, 0), MeldLog.BAD);
        onNew("countRange, CLOSED", x -> x.countRange(3, 0, 31), MeldLog.CLOSED);
        onNew("commit, BAD", x -> x.commit(-1), MeldLog.BAD);
        onNew("commit, CLOSED", x -> x.commit(0), MeldLog.CLOSED);
        onNew("abort, BAD", x -> x.abort(4), MeldLog.BAD);
        onNew("abort, CLOSED", x -> x.abort(3), MeldLog.CLOSED);
        onNew("has, not there", x -> x.has(1, 0), 0);
        onNew("at, not there", x -> x.at(1, 0), 0);
        onNew("size, BAD", x -> x.size(1), MeldLog.BAD);
        onNew("changed, BAD", x -> x.changed(0, 1), MeldLog.BAD);
    }

    /** "Nothing is promised beyond the answers and state changes described above": of these, no change is. */
    private static void answeredQuestionsChangeNothing() {
        changesNothing("latest", Log::latest, 10);
        changesNothing("has", x -> x.has(5, 31), 1);
        changesNothing("at", x -> x.at(5, 31), 131);
        changesNothing("size", x -> x.size(10), 7);
        changesNothing("changed", x -> x.changed(5, 10), 5);
        changesNothing("peek", x -> x.peek(3, 2), 22);
    }
}
