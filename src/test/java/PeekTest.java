/** Promise 6: peek. */
public final class PeekTest {
    public static void main(String[] args) {
        answersTheValue();
        answersFromTheView();
        zeroIfNone();
        isNoReading();
        zeroIfNotOpen();
        zeroOnceEnded();
        zeroForTransactionOutside();
        zeroForKeyOutside();
        Checks.finish();
    }

    /** "The value that a key has in the view of an open transaction": any int, of every key. */
    private static void answersTheValue() {
        for (int value : Edges.ANY_VALUE) {
            Log x = new Log("P6 peek answers the value");
            x.commitWrite(0, 0, value);
            x.commitWrite(0, 31, value);
            x.begin(0);
            x.peek(0, 0).is(value);
            x.peek(0, 31).is(value);
        }
        Log y = new Log("P6 peek answers the value of every key");
        y.commitAllKeys(0);
        y.beginAll();
        for (int t = 0; t < 4; t++) {
            for (int key = 0; key < 32; key++) {
                y.peek(t, key).is(100 + key);
            }
        }
    }

    /** "in the view": with its own writes and erasures, and none of the others'. */
    private static void answersFromTheView() {
        Log x = new Log("P6 peek answers from the view");
        x.commitWrite(0, 0, 10);
        x.commitWrite(0, 31, 20);
        x.begin(0);
        x.begin(3);
        x.write(0, 0, 11);
        x.erase(0, 31);
        x.peek(0, 0).is(11);
        x.peek(0, 31).is(0);
        x.peek(3, 0).is(10);
        x.peek(3, 31).is(20);
        x.write(0, 0, 12);
        x.write(0, 31, 21);
        x.peek(0, 0).is(12);
        x.peek(0, 31).is(21);
        x.commit(0);
        x.peek(3, 0).is(10);
        x.peek(3, 31).is(20);
    }

    /** "0 if none": never given, erased in the base, or erased by itself. */
    private static void zeroIfNone() {
        Log x = new Log("P6 peek answers 0 if there is no value");
        x.commitWrite(0, 5, 50);
        x.commitErase(0, 5);
        x.commitWrite(0, 6, 60);
        x.begin(0);
        x.erase(0, 6);
        x.peek(0, 4).is(0);
        x.peek(0, 5).is(0);
        x.peek(0, 6).is(0);
    }

    /** "this does not count as reading": of no key. */
    private static void isNoReading() {
        Log x = new Log("P6 a peek is no reading");
        x.begin(0);
        for (int key = 0; key < 32; key++) {
            x.peek(0, key).is(0);
        }
        x.commitAllKeys(1);
        for (int key = 0; key < 32; key++) {
            x.peek(0, key).is(0);
        }
        x.commit(0).is(7);
    }

    /** "0 if t is not open": though the states have values. */
    private static void zeroIfNotOpen() {
        for (int t = 0; t < 4; t++) {
            Log x = new Log("P6 peek answers 0 if it is not open");
            x.commitAllKeys((t + 1) % 4);
            x.begin((t + 1) % 4);
            for (int key = 0; key < 32; key++) {
                x.peek(t, key).is(0);
            }
        }
    }

    /** "0 if t is not open": after each of its ends. */
    private static void zeroOnceEnded() {
        for (int t = 0; t < 4; t++) {
            Log x = new Log("P6 peek answers 0 once it has ended");
            int other = (t + 1) % 4;
            x.commitWrite(t, 0, 10);
            x.peek(t, 0).is(0);
            x.begin(t);
            x.write(t, 1, 11);
            x.abort(t).is(1);
            x.peek(t, 0).is(0);
            x.peek(t, 1).is(0);
            x.begin(t);
            x.write(t, 1, 11);
            x.read(t, 2);
            x.commitWrite(other, 2, 12);
            x.commit(t).is(MeldLog.CONFLICT);
            x.peek(t, 0).is(0);
            x.peek(t, 1).is(0);
        }
    }

    private static Log allOpenWithAllKeys(String sentence) {
        Log x = new Log(sentence);
        x.commitAllKeys(0);
        x.beginAll();
        return x;
    }

    /** "0 if ... a number is out of range": t. */
    private static void zeroForTransactionOutside() {
        Log x = allOpenWithAllKeys("P6 peek answers 0 if t is outside 0..3");
        for (int t : Edges.NO_TRANSACTION) {
            x.peek(t, 0).is(0);
            x.peek(t, 31).is(0);
        }
        x.peek(0, 0).is(100);
        x.peek(3, 31).is(131);
    }

    /** "0 if ... a number is out of range": the key. */
    private static void zeroForKeyOutside() {
        Log x = allOpenWithAllKeys("P6 peek answers 0 if the key is outside 0..31");
        for (int key : Edges.NO_KEY) {
            for (int t = 0; t < 4; t++) {
                x.peek(t, key).is(0);
            }
        }
        for (int t : Edges.NO_TRANSACTION) {
            x.peek(t, 32).is(0);
            x.peek(t, -1).is(0);
        }
    }
}
