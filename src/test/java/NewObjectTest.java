/** Promise 1: a new object. */
public final class NewObjectTest {
    public static void main(String[] args) {
        stateZeroIsThere();
        stateZeroIsTheOnlyOne();
        noTransactionIsOpen();
        everyTransactionCanBeBegun();
        objectsAreApart();
        Checks.finish();
    }

    /** "State 0 only": it is there, kept and empty. */
    private static void stateZeroIsThere() {
        Log x = new Log("P1 state 0 is there");
        x.latest().is(0);
        x.size(0).is(0);
        for (int key = 0; key < 32; key++) {
            x.has(0, key).is(false);
            x.at(0, key).is(0);
        }
    }

    /** "State 0 only": -1 and 1 are not there. */
    private static void stateZeroIsTheOnlyOne() {
        Log x = new Log("P1 there is no other state than 0");
        for (int state : Edges.noState(0)) {
            x.size(state).is(MeldLog.BAD);
            x.has(state, 0).is(false);
            x.at(state, 0).is(0);
            x.changed(0, state).is(MeldLog.BAD);
            x.changed(state, 0).is(MeldLog.BAD);
        }
        x.changed(0, 0).is(MeldLog.BAD);
    }

    /** "no transaction is open": asked by each call that needs an open one, as the first call on the object. */
    private static void noTransactionIsOpen() {
        String sentence = "P1 no transaction is open";
        for (int t = 0; t < 4; t++) {
            new Log(sentence).write(t, 0, 1).is(MeldLog.CLOSED);
            new Log(sentence).erase(t, 0).is(MeldLog.CLOSED);
            new Log(sentence).read(t, 0).is(MeldLog.CLOSED);
            new Log(sentence).peek(t, 0).is(0);
            new Log(sentence).countRange(t, 0, 31).is(MeldLog.CLOSED);
            new Log(sentence).commit(t).is(MeldLog.CLOSED);
            new Log(sentence).abort(t).is(MeldLog.CLOSED);
        }
    }

    /** "no transaction is open": begin finds none open. */
    private static void everyTransactionCanBeBegun() {
        for (int t = 0; t < 4; t++) {
            new Log("P1 begin finds no transaction open").begin(t).is(0);
        }
    }

    /** "State 0 only; no transaction is open.": whatever has been done with others, before and after it was made. */
    private static void objectsAreApart() {
        Log before = new Log("P1 an object knows nothing of others");
        Log x = new Log("P1 an object knows nothing of others");
        x.commitAllKeys(0);
        x.beginAll();
        Log after = new Log("P1 an object knows nothing of others");
        for (Log fresh : new Log[] {before, after}) {
            fresh.latest().is(0);
            fresh.size(0).is(0);
            fresh.has(0, 5).is(false);
            fresh.abort(0).is(MeldLog.CLOSED);
            fresh.begin(0).is(0);
            fresh.peek(0, 5).is(0);
        }
    }
}
