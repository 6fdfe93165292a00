/** Promise 3: write. */
public final class WriteTest {
    public static void main(String[] args) {
        writesThatKeyInThatTransaction();
        writesAnyValue();
        transactionOutsideIsBad();
        keyOutsideIsBad();
        notOpenIsClosed();
        sixKeysFit();
        seventhKeyIsFull();
        seventhKeyIsFullAfterErasures();
        oneOfTheSixIsNotFull();
        fullOneLeavesRoomInOthers();
        answersTheNumberOfKeys();
        Checks.finish();
    }

    /** "Writes a key in a transaction.": each of the 32, in each of the four, and nothing beside it. */
    private static void writesThatKeyInThatTransaction() {
        for (int t = 0; t < 4; t++) {
            for (int key = 0; key < 32; key++) {
                Log x = new Log("P3 write gives that key the value in that view alone");
                x.beginAll();
                x.write(t, key, 7).is(1);
                for (int other = 0; other < 4; other++) {
                    for (int each = 0; each < 32; each++) {
                        x.peek(other, each).is(other == t && each == key ? 7 : 0);
                    }
                }
                x.has(0, key).is(false);
                x.at(0, key).is(0);
                x.size(0).is(0);
                x.latest().is(0);
            }
        }
    }

    /** "Writes a key": the value is "any int". */
    private static void writesAnyValue() {
        Log x = new Log("P3 any int can be written");
        x.begin(0);
        for (int key = 0; key < 6; key++) {
            x.write(0, key, Edges.ANY_VALUE[key]).is(key + 1);
            x.peek(0, key).is(Edges.ANY_VALUE[key]);
            x.read(0, key).is(1);
        }
        x.commit(0).is(1);
        for (int key = 0; key < 6; key++) {
            x.has(1, key).is(true);
            x.at(1, key).is(Edges.ANY_VALUE[key]);
        }
    }

    /** "t outside 0..3 ... BAD" */
    private static void transactionOutsideIsBad() {
        Refusals.transactionOutsideIsBad("P3", (x, t) -> x.write(t, 31, 1));
    }

    /** "key outside 0..31: BAD" */
    private static void keyOutsideIsBad() {
        Refusals.keyOutsideIsBad("P3", (x, t, key) -> x.write(t, key, 1));
    }

    /** "t is not open: CLOSED" */
    private static void notOpenIsClosed() {
        Refusals.notOpenIsClosed("P3", (x, t) -> x.write(t, 0, 1));
    }

    /** "it has written or erased 6 other keys: FULL": 5 others are not too many, whichever the sixth is. */
    private static void sixKeysFit() {
        for (int sixth = 5; sixth < 32; sixth++) {
            Log x = new Log("P3 a sixth key fits");
            x.begin(0);
            x.writeKeys(0, 0, 5);
            x.write(0, sixth, 7).is(6);
            x.peek(0, sixth).is(7);
            x.commit(0).is(1);
            x.at(1, sixth).is(7);
            x.size(1).is(6);
        }
    }

    /** "it has written or erased 6 other keys: FULL" */
    private static void seventhKeyIsFull() {
        for (int t = 0; t < 4; t++) {
            Log x = new Log("P3 a seventh key is FULL");
            x.begin(t);
            x.writeKeys(t, 13, 6);
            for (int key = 0; key < 32; key++) {
                if (key < 13 || key > 18) {
                    x.write(t, key, 7).is(MeldLog.FULL);
                    x.peek(t, key).is(0);
                }
            }
        }
    }

    /** "it has written or erased 6 other keys: FULL": erasures count, of keys with a value and without. */
    private static void seventhKeyIsFullAfterErasures() {
        for (int erased = 1; erased <= 6; erased++) {
            Log x = new Log("P3 a seventh key is FULL after erasures");
            x.commitWrite(0, 0, 1);
            x.begin(0);
            for (int key = 0; key < erased; key++) {
                x.erase(0, key).is(key + 1);
            }
            x.writeKeys(0, erased, 6 - erased);
            x.write(0, 6, 7).is(MeldLog.FULL);
            x.write(0, 31, 7).is(MeldLog.FULL);
        }
    }

    /** "6 other keys": a key that it has written or erased already can be written again. */
    private static void oneOfTheSixIsNotFull() {
        Log x = new Log("P3 one of the six is not FULL");
        x.begin(0);
        int[] keys = {0, 6, 12, 18, 24, 31};
        for (int i = 0; i < 6; i++) {
            if (i % 2 == 0) {
                x.write(0, keys[i], 1).is(i + 1);
            } else {
                x.erase(0, keys[i]).is(i + 1);
            }
        }
        for (int key : keys) {
            x.write(0, key, 50 + key).is(6);
            x.peek(0, key).is(50 + key);
            x.read(0, key).is(1);
        }
        x.commit(0).is(1);
        x.size(1).is(6);
    }

    /** "it has written or erased 6 other keys": that transaction, not all of them together. */
    private static void fullOneLeavesRoomInOthers() {
        Log x = new Log("P3 a full one leaves room in the others");
        x.beginAll();
        for (int t = 0; t < 4; t++) {
            for (int i = 0; i < 6; i++) {
                x.write(t, t * 6 + i, t).is(i + 1);
            }
        }
        for (int t = 0; t < 4; t++) {
            x.write(t, 31, t).is(MeldLog.FULL);
        }
    }

    /** "Else answers the number of keys that it has written or erased then." */
    private static void answersTheNumberOfKeys() {
        Log x = new Log("P3 write answers the number of keys");
        x.commitWrite(0, 1, 10);
        x.begin(0);
        for (int i = 0; i < 6; i++) {
            x.write(0, 31 - i, 1).is(i + 1);
            x.write(0, 31 - i, 2).is(i + 1);
            x.write(0, 31, 2).is(i + 1);
        }
        x.abort(0);
        x.begin(0);
        x.write(0, 1, 10).is(1);
        x.erase(0, 1).is(1);
        x.write(0, 1, 11).is(1);
        x.erase(0, 2).is(2);
        x.write(0, 2, 20).is(2);
        x.read(0, 3);
        x.write(0, 4, 40).is(3);
    }
}
