/** Promise 11: has. */
public final class HasTest {
    public static void main(String[] args) {
        tellsEachKey();
        tellsEachKeptState();
        anyValueIsOne();
        openTransactionsAreNotSeen();
        falseIfTheStateIsNotThere();
        falseIfTheStateIsNotKept();
        falseIfTheKeyIsOutside();
        Checks.finish();
    }

    /** "Whether a key has a value": each of the 32, and no other. */
    private static void tellsEachKey() {
        for (int key = 0; key < 32; key++) {
            Log x = new Log("P11 has tells each key");
            x.commitWrite(0, key, 1);
            for (int each = 0; each < 32; each++) {
                x.has(0, each).is(false);
                x.has(1, each).is(each == key);
            }
        }
    }

    /** "in a kept state": each has its own keys. */
    private static void tellsEachKeptState() {
        for (int last = 0; last <= 20; last++) {
            Log x = new Log("P11 has tells each kept state");
            x.commitStates(0, last);
            for (int state = Math.max(0, last - 5); state <= last; state++) {
                for (int key = 1; key <= 21; key++) {
                    x.has(state, key).is(key <= state);
                }
            }
        }
    }

    /** "a value, any int, or none": 0 is one; an erased key has none. */
    private static void anyValueIsOne() {
        for (int value : Edges.ANY_VALUE) {
            Log x = new Log("P11 any int is a value");
            x.commitWrite(0, 31, value);
            x.commitErase(0, 31);
            x.commitWrite(0, 31, value);
            x.has(0, 31).is(false);
            x.has(1, 31).is(true);
            x.has(2, 31).is(false);
            x.has(3, 31).is(true);
        }
    }

    /** "in a kept state": what an open transaction has written or erased is in none. */
    private static void openTransactionsAreNotSeen() {
        Log x = new Log("P11 has sees nothing of an open transaction");
        x.commitWrite(0, 1, 1);
        x.begin(0);
        x.erase(0, 1);
        x.write(0, 2, 2);
        x.has(1, 1).is(true);
        x.has(1, 2).is(false);
    }

    /** "false if the state is not there": -1 and latest + 1, and further off. */
    private static void falseIfTheStateIsNotThere() {
        for (int more = 0; more <= 20; more++) {
            Log x = new Log("P11 has is false if the state is not there");
            x.commitAllKeys(0);
            x.commitNothing(0, more);
            x.has(6 + more, 0).is(true);
            for (int state : Edges.noState(6 + more)) {
                x.has(state, 0).is(false);
                x.has(state, 31).is(false);
            }
        }
    }

    /** "false if the state is ... not kept": latest - 5 is kept, latest - 6 is not. */
    private static void falseIfTheStateIsNotKept() {
        for (int last = 1; last <= 30; last++) {
            Log x = new Log("P11 has is false if the state is not kept");
            x.commitWrite(0, 31, 1);
            x.commitNothing(0, last - 1);
            for (int state = 1; state <= last; state++) {
                x.has(state, 31).is(state >= last - 5);
            }
            x.has(0, 31).is(false);
        }
    }

    /** "false if ... key is outside 0..31" */
    private static void falseIfTheKeyIsOutside() {
        Log x = new Log("P11 has is false if the key is outside 0..31");
        x.commitAllKeys(0);
        x.commitNothing(0, 7);
        for (int key : Edges.NO_KEY) {
            for (int state = 7; state <= 14; state++) {
                x.has(state, key).is(false);
            }
        }
        x.has(13, 0).is(true);
        x.has(13, 31).is(true);
        x.has(Edges.MIN, Edges.MIN).is(false);
        x.has(Edges.MAX, Edges.MAX).is(false);
    }
}
