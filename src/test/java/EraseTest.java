/** Promise 4: erase. */
public final class EraseTest {
    public static void main(String[] args) {
        erasesThatKeyInThatTransaction();
        noValueInTheViewThen();
        keptStatesHoldItStill();
        transactionOutsideIsBad();
        keyOutsideIsBad();
        notOpenIsClosed();
        sixKeysFit();
        seventhKeyIsFull();
        oneOfTheSixIsNotFull();
        answersTheNumberOfKeys();
        Checks.finish();
    }

    /** "Erases a key in a transaction": each of the 32, in each of the four, and nothing beside it. */
    private static void erasesThatKeyInThatTransaction() {
        for (int t = 0; t < 4; t++) {
            for (int key = 0; key < 32; key++) {
                Log x = new Log("P4 erase takes the value of that key in that view alone");
                x.commitAllKeys(0);
                x.beginAll();
                x.erase(t, key).is(1);
                for (int other = 0; other < 4; other++) {
                    for (int each = 0; each < 32; each++) {
                        x.peek(other, each).is(other == t && each == key ? 0 : 100 + each);
                    }
                }
                x.size(6).is(32);
                x.latest().is(6);
            }
        }
    }

    /** "it has no value in the view then": had it one from the base, from a write, or none. */
    private static void noValueInTheViewThen() {
        for (int key : new int[] {0, 1, 15, 16, 30, 31}) {
            for (int kind = 0; kind < 3; kind++) {
                Log x = new Log("P4 an erased key has no value in the view");
                if (kind == 0) {
                    x.commitWrite(0, key, Edges.MIN);
                }
                x.begin(0);
                if (kind == 1) {
                    x.write(0, key, Edges.MAX);
                }
                x.erase(0, key).is(1);
                x.read(0, key).is(0);
                x.peek(0, key).is(0);
                x.countRange(0, key, key).is(0);
                x.countRange(0, 0, 31).is(0);
                x.write(0, key, 0).is(1);
                x.read(0, key).is(1);
            }
        }
    }

    /** "Erases a key in a transaction": not in the states, of which old ones stay as they are also after the commit. */
    private static void keptStatesHoldItStill() {
        Log x = new Log("P4 an erasure comes with the commit and leaves old states");
        x.commitWrite(0, 31, 310);
        x.begin(0);
        x.erase(0, 31).is(1);
        x.has(1, 31).is(true);
        x.commit(0).is(2);
        x.has(1, 31).is(true);
        x.at(1, 31).is(310);
        x.size(1).is(1);
        x.has(2, 31).is(false);
        x.at(2, 31).is(0);
        x.size(2).is(0);
    }

    /** "Answers as write does.": "t outside 0..3 ... BAD" */
    private static void transactionOutsideIsBad() {
        Refusals.transactionOutsideIsBad("P4", (x, t) -> x.erase(t, 31));
    }

    /** "Answers as write does.": "key outside 0..31: BAD" */
    private static void keyOutsideIsBad() {
        Refusals.keyOutsideIsBad("P4", (x, t, key) -> x.erase(t, key));
    }

    /** "Answers as write does.": "t is not open: CLOSED" */
    private static void notOpenIsClosed() {
        Refusals.notOpenIsClosed("P4", (x, t) -> x.erase(t, 0));
    }

    /** "Answers as write does.": 5 other keys are not FULL, whichever the sixth is. */
    private static void sixKeysFit() {
        for (int sixth = 5; sixth < 32; sixth++) {
            Log x = new Log("P4 a sixth key fits");
            x.commitWrite(1, sixth, 1);
            x.begin(0);
            x.writeKeys(0, 0, 5);
            x.erase(0, sixth).is(6);
            x.commit(0).is(2);
            x.has(2, sixth).is(false);
            x.size(2).is(5);
            x.changed(1, 2).is(6);
        }
    }

    /** "Answers as write does.": "it has written or erased 6 other keys: FULL", in whatever mixture. */
    private static void seventhKeyIsFull() {
        for (int erased = 0; erased <= 6; erased++) {
            Log x = new Log("P4 a seventh key is FULL");
            x.commitAllKeys(0);
            x.begin(3);
            for (int key = 13; key < 13 + erased; key++) {
                x.erase(3, key);
            }
            x.writeKeys(3, 13 + erased, 6 - erased);
            for (int key = 0; key < 32; key++) {
                if (key < 13 || key > 18) {
                    x.erase(3, key).is(MeldLog.FULL);
                    x.peek(3, key).is(100 + key);
                }
            }
        }
    }

    /** "6 other keys": a key that it has written or erased already can be erased. */
    private static void oneOfTheSixIsNotFull() {
        Log x = new Log("P4 one of the six is not FULL");
        x.begin(0);
        int[] keys = {0, 6, 12, 18, 24, 31};
        for (int i = 0; i < 6; i++) {
            if (i % 2 == 0) {
                x.write(0, keys[i], 1).is(i + 1);
            } else {
                x.erase(0, keys[i]).is(i + 1);
            }
        }
        for (int i = 0; i < 6; i++) {
            x.erase(0, keys[i]).is(6);
            x.read(0, keys[i]).is(0);
        }
        x.erase(0, 1).is(MeldLog.FULL);
        x.commit(0).is(1);
        x.size(1).is(0);
        x.changed(0, 1).is(6);
    }

    /** "Answers as write does.": the number of keys, each once, also those that had no value. */
    private static void answersTheNumberOfKeys() {
        Log x = new Log("P4 erase answers the number of keys");
        x.commitWrite(0, 31, 10);
        x.begin(0);
        for (int i = 0; i < 6; i++) {
            x.erase(0, 31 - i).is(i + 1);
            x.erase(0, 31 - i).is(i + 1);
            x.erase(0, 31).is(i + 1);
        }
        x.abort(0);
        x.begin(0);
        x.write(0, 1, 10).is(1);
        x.erase(0, 1).is(1);
        x.read(0, 3);
        x.erase(0, 2).is(2);
        x.write(0, 2, 20).is(2);
        x.erase(0, 2).is(2);
    }
}
