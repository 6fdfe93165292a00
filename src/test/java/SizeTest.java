/** Promise 13: size. */
public final class SizeTest {
    public static void main(String[] args) {
        countsNoneToAll();
        countsEachKeyOnce();
        countsWhateverTheValue();
        openTransactionsAreNotSeen();
        badIfThereIsNoSuchState();
        goneIfItIsNotKept();
        Checks.finish();
    }

    /** "The number of keys that have a value in a state.": 0 to 32, up and down again. */
    private static void countsNoneToAll() {
        Log x = new Log("P13 size counts none to all keys");
        x.size(0).is(0);
        for (int key = 0; key < 32; key++) {
            x.commitWrite(0, key, 1);
            x.size(key + 1).is(key + 1);
            x.size(key).is(key);
        }
        for (int key = 0; key < 32; key++) {
            x.commitErase(0, key);
            x.size(key + 33).is(31 - key);
        }
        x.size(64).is(0);
    }

    /** "The number of keys": a key written again, or erased where it had no value, changes nothing. */
    private static void countsEachKeyOnce() {
        Log x = new Log("P13 size counts each key once");
        x.commitWrite(0, 31, 1);
        x.commitWrite(0, 31, 2);
        x.commitErase(0, 30);
        x.commitErase(0, 31);
        x.commitErase(0, 31);
        x.size(0).is(0);
        x.size(1).is(1);
        x.size(2).is(1);
        x.size(3).is(1);
        x.size(4).is(0);
        x.size(5).is(0);
    }

    /** "that have a value": any int is one, 0 too. */
    private static void countsWhateverTheValue() {
        Log x = new Log("P13 size counts a key whatever its value");
        for (int key = 0; key < 6; key++) {
            x.commitWrite(0, key, Edges.ANY_VALUE[key]);
            x.size(key + 1).is(key + 1);
        }
    }

    /** "in a state": what an open transaction has written or erased is in none. */
    private static void openTransactionsAreNotSeen() {
        Log x = new Log("P13 size sees nothing of an open transaction");
        x.commitWrite(0, 1, 1);
        x.begin(0);
        x.write(0, 2, 2);
        x.size(1).is(1);
        x.erase(0, 1);
        x.erase(0, 2);
        x.size(1).is(1);
    }

    /** "BAD if there is no such state": -1 and latest + 1, and further off; 0 and latest are such. */
    private static void badIfThereIsNoSuchState() {
        for (int last = 0; last <= 30; last++) {
            Log x = new Log("P13 size is BAD if there is no such state");
            x.commitStates(0, last);
            for (int state : Edges.noState(last)) {
                x.size(state).is(MeldLog.BAD);
            }
            x.size(0).is(last <= 5 ? 0 : MeldLog.GONE);
            x.size(last).is(last);
        }
    }

    /** "GONE if it is not kept": latest - 5 is kept, latest - 6 is not. */
    private static void goneIfItIsNotKept() {
        for (int last = 0; last <= 30; last++) {
            Log x = new Log("P13 size is GONE if the state is not kept");
            x.commitStates(0, last);
            for (int state = 0; state <= last; state++) {
                x.size(state).is(state >= last - 5 ? state : MeldLog.GONE);
            }
        }
    }
}
