/** Promise 12: at. */
public final class AtTest {
    public static void main(String[] args) {
        tellsEachKey();
        tellsEachKeptState();
        tellsAnyValue();
        zeroIfItHasNone();
        openTransactionsAreNotSeen();
        zeroIfTheStateIsNotThere();
        zeroIfTheStateIsNotKept();
        zeroIfTheKeyIsOutside();
        Checks.finish();
    }

    /** "The value of a key": each of the 32 has its own. */
    private static void tellsEachKey() {
        Log x = new Log("P12 at tells each key");
        x.commitAllKeys(0);
        for (int key = 0; key < 32; key++) {
            x.at(6, key).is(100 + key);
            x.at(1, key).is(key < 6 ? 100 + key : 0);
        }
    }

    /** "in a kept state": each has its own value for one key. */
    private static void tellsEachKeptState() {
        for (int key : new int[] {0, 1, 30, 31}) {
            Log x = new Log("P12 at tells each kept state");
            for (int last = 1; last <= 30; last++) {
                x.commitWrite(0, key, 1000 + last);
                for (int state = Math.max(1, last - 5); state <= last; state++) {
                    x.at(state, key).is(1000 + state);
                }
            }
        }
    }

    /** "The value of a key": any int. */
    private static void tellsAnyValue() {
        for (int value : Edges.ANY_VALUE) {
            Log x = new Log("P12 at tells any int");
            x.commitWrite(0, 0, value);
            x.commitWrite(0, 31, value);
            x.at(1, 0).is(value);
            x.at(1, 31).is(0);
            x.at(2, 0).is(value);
            x.at(2, 31).is(value);
        }
    }

    /** "0 if it has none": never given, or erased. */
    private static void zeroIfItHasNone() {
        Log x = new Log("P12 at is 0 if the key has no value");
        x.commitWrite(0, 31, 5);
        x.commitErase(0, 31);
        x.commitErase(0, 30);
        x.at(0, 31).is(0);
        x.at(1, 31).is(5);
        x.at(2, 31).is(0);
        x.at(3, 31).is(0);
        x.at(3, 30).is(0);
        x.at(3, 29).is(0);
    }

    /** "in a kept state": what an open transaction has written or erased is in none. */
    private static void openTransactionsAreNotSeen() {
        Log x = new Log("P12 at sees nothing of an open transaction");
        x.commitWrite(0, 1, 1);
        x.begin(0);
        x.write(0, 1, 2);
        x.write(0, 2, 3);
        x.at(1, 1).is(1);
        x.at(1, 2).is(0);
        x.erase(0, 1);
        x.at(1, 1).is(1);
    }

    /** "where has answers false": -1 and latest + 1, and further off. */
    private static void zeroIfTheStateIsNotThere() {
        for (int more = 0; more <= 20; more++) {
            Log x = new Log("P12 at is 0 if the state is not there");
            x.commitAllKeys(0);
            x.commitNothing(0, more);
            x.at(6 + more, 0).is(100);
            for (int state : Edges.noState(6 + more)) {
                x.at(state, 0).is(0);
                x.at(state, 31).is(0);
            }
        }
    }

    /** "where has answers false": latest - 5 is kept, latest - 6 is not. */
    private static void zeroIfTheStateIsNotKept() {
        for (int last = 1; last <= 30; last++) {
            Log x = new Log("P12 at is 0 if the state is not kept");
            x.commitWrite(0, 31, 7);
            x.commitNothing(0, last - 1);
            for (int state = 1; state <= last; state++) {
                x.at(state, 31).is(state >= last - 5 ? 7 : 0);
            }
            x.at(0, 31).is(0);
        }
    }

    /** "where has answers false": a key outside 0..31. */
    private static void zeroIfTheKeyIsOutside() {
        Log x = new Log("P12 at is 0 if the key is outside 0..31");
        x.commitAllKeys(0);
        x.commitNothing(0, 7);
        for (int key : Edges.NO_KEY) {
            for (int state = 7; state <= 14; state++) {
                x.at(state, key).is(0);
            }
        }
        x.at(13, 0).is(100);
        x.at(13, 31).is(131);
        x.at(Edges.MIN, Edges.MIN).is(0);
        x.at(Edges.MAX, Edges.MAX).is(0);
    }
}
