/** "An object is used for at most 512 calls after it has been made": up to the 512th, all answers are due. */
public final class CallsTest {
    private static final String SENTENCE = "512 calls: the answer is due";

    public static void main(String[] args) {
        mostStates();
        mostStatesWithChanges();
        transactionOpenAllTheTime();
        conflictAfterMostStates();
        mostWrites();
        mostReads();
        mostRefusals();
        Checks.finish();
    }

    private static void all512(Log x) {
        Checks.due(SENTENCE + ": the calls of this test", x.calls(), Log.MOST_CALLS);
    }

    /** As many states as there can be. */
    private static void mostStates() {
        Log x = new Log(SENTENCE);
        for (int state = 1; state <= 256; state++) {
            x.begin(state % 4).is(state - 1);
            x.commit(state % 4).is(state);
        }
        all512(x);
    }

    private static void mostStatesWithChanges() {
        Log x = new Log(SENTENCE);
        for (int state = 1; state <= 166; state++) {
            x.commitWrite(state % 4, state % 32, state);
        }
        x.size(160).is(MeldLog.GONE);
        x.size(161).is(32);
        x.at(161, 161 % 32).is(161);
        x.at(166, 166 % 32).is(166);
        x.at(161, 166 % 32).is(166 - 32);
        x.changed(161, 166).is(5);
        x.changed(160, 166).is(MeldLog.GONE);
        x.has(167, 0).is(false);
        x.size(167).is(MeldLog.BAD);
        x.has(166, 0).is(true);
        x.has(166, 31).is(true);
        x.has(160, 31).is(false);
        x.latest().is(166);
        x.latest().is(166);
        all512(x);
    }

    /** The first call begins a transaction, the last one commits it. */
    private static void transactionOpenAllTheTime() {
        Log x = new Log(SENTENCE);
        x.begin(0).is(0);
        x.read(0, 31).is(0);
        x.write(0, 0, -1).is(1);
        for (int state = 1; state <= 169; state++) {
            x.commitWrite(1, state % 31, state);
        }
        x.countRange(0, 31, 31).is(0);
        x.commit(0).is(170);
        all512(x);
    }

    /** The first state after the base changed what was read, and no later one. */
    private static void conflictAfterMostStates() {
        Log x = new Log(SENTENCE);
        x.begin(0).is(0);
        x.begin(1).is(0);
        x.commitWrite(2, 31, 1);
        x.commitNothing(2, 252);
        x.read(0, 31).is(0);
        x.commit(0).is(MeldLog.CONFLICT);
        x.commit(1).is(254);
        all512(x);
    }

    private static void mostWrites() {
        Log x = new Log(SENTENCE);
        x.begin(3).is(0);
        for (int i = 0; i < 255; i++) {
            x.write(3, i % 6, i).is(Math.min(6, i + 1));
            x.erase(3, i % 6).is(Math.min(6, i + 1));
        }
        x.abort(3).is(6);
        all512(x);
    }

    private static void mostReads() {
        Log x = new Log(SENTENCE);
        x.begin(3).is(0);
        x.write(3, 9, 1).is(1);
        for (int i = 0; i < 509; i++) {
            x.read(3, i % 32).is(i % 32 == 9 ? 1 : 0);
        }
        x.commit(3).is(1);
        all512(x);
    }

    private static void mostRefusals() {
        Log x = new Log(SENTENCE);
        for (int i = 0; i < 127; i++) {
            x.begin(4).is(MeldLog.BAD);
            x.commit(i % 4).is(MeldLog.CLOSED);
            x.write(i % 4, i % 32, i).is(MeldLog.CLOSED);
            x.size(1 + i).is(MeldLog.BAD);
        }
        x.begin(0).is(0);
        x.write(0, 31, 5).is(1);
        x.commit(0).is(1);
        x.at(1, 31).is(5);
        all512(x);
    }
}
