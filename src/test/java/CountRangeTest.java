/** Promise 7: countRange. */
public final class CountRangeTest {
    public static void main(String[] args) {
        countsFromLowToHighBothIncluded();
        countsNoneAndAll();
        countsInTheView();
        countsWhateverTheValue();
        keysOfTheRangeCountAsRead();
        allKeysCountAsRead();
        keysBesideTheRangeAreNotRead();
        keysOfAllRangesAreRead();
        noOtherTransactionHasRead();
        ownChangesCountAsRead();
        transactionOutsideIsBad();
        lowOutsideIsBad();
        highOutsideIsBad();
        lowAboveHighIsBad();
        lowEqualToHighIsFine();
        notOpenIsClosed();
        Checks.finish();
    }

    /** "Counts the keys from low to high (both included)": one key with a value, looked at through every range. */
    private static void countsFromLowToHighBothIncluded() {
        for (int key = 0; key < 32; key++) {
            for (int low = 0; low < 32; low++) {
                Log x = new Log("P7 low and high are included");
                x.commitWrite(0, key, 1);
                x.begin(0);
                for (int high = low; high < 32; high++) {
                    x.countRange(0, low, high).is(low <= key && key <= high ? 1 : 0);
                }
            }
        }
    }

    /** "Counts the keys": from none to all 32. */
    private static void countsNoneAndAll() {
        Log x = new Log("P7 none to all 32 keys are counted");
        x.begin(0);
        x.countRange(0, 0, 31).is(0);
        x.commitAllKeys(1);
        x.begin(2);
        x.countRange(2, 0, 31).is(32);
        x.countRange(2, 1, 31).is(31);
        x.countRange(2, 0, 30).is(31);
        x.countRange(0, 0, 31).is(0);
        for (int low = 0; low < 16; low++) {
            x.countRange(2, low, 31 - low).is(32 - 2 * low);
        }
    }

    /** "that have a value in the view": with its own writes and erasures, and none of the others'. */
    private static void countsInTheView() {
        Log x = new Log("P7 the keys are counted in the view");
        x.commitWrite(0, 0, 1);
        x.commitWrite(0, 16, 1);
        x.begin(0);
        x.begin(1);
        x.write(0, 31, 1);
        x.countRange(0, 0, 31).is(3);
        x.erase(0, 16);
        x.countRange(0, 0, 31).is(2);
        x.countRange(0, 16, 31).is(1);
        x.countRange(1, 0, 31).is(2);
        x.write(0, 16, 2);
        x.write(0, 16, 3);
        x.countRange(0, 16, 31).is(2);
        x.erase(0, 17);
        x.countRange(0, 16, 31).is(2);
        x.commitAllKeys(2);
        x.countRange(0, 0, 31).is(3);
        x.countRange(1, 0, 31).is(2);
    }

    /** "that have a value": any int is one, 0 too. */
    private static void countsWhateverTheValue() {
        Log x = new Log("P7 a key counts whatever its value");
        for (int key = 0; key < 6; key++) {
            x.commitWrite(0, key, Edges.ANY_VALUE[key]);
        }
        x.begin(0);
        x.countRange(0, 0, 31).is(6);
        for (int key = 0; key < 6; key++) {
            x.countRange(0, key, key).is(1);
            x.write(0, key + 6, Edges.ANY_VALUE[key]);
        }
        x.countRange(0, 0, 31).is(12);
    }

    private static void changeAfterCount(String sentence, int low, int high, int key, boolean read) {
        Log x = new Log(sentence);
        x.begin(2);
        x.countRange(2, low, high).is(0);
        x.commitWrite(1, key, 1);
        x.commit(2).is(read ? MeldLog.CONFLICT : 2);
    }

    /** "all keys from low to high count as read from then on": the ends and the middle, with no value in them. */
    private static void keysOfTheRangeCountAsRead() {
        for (int low = 0; low < 32; low++) {
            for (int high = low; high < 32; high++) {
                String sentence = "P7 all keys from low to high count as read";
                changeAfterCount(sentence, low, high, low, true);
                changeAfterCount(sentence, low, high, high, true);
                changeAfterCount(sentence, low, high, (low + high) / 2, true);
            }
        }
    }

    /** "all keys from low to high count as read": in the widest range, with and without a value. */
    private static void allKeysCountAsRead() {
        for (int key = 0; key < 32; key++) {
            changeAfterCount("P7 all 32 keys count as read", 0, 31, key, true);
            Log x = new Log("P7 all 32 keys with a value count as read");
            x.commitAllKeys(0);
            x.begin(0);
            x.countRange(0, 0, 31).is(32);
            x.commitErase(1, key);
            x.commit(0).is(MeldLog.CONFLICT);
        }
    }

    /** "all keys from low to high count as read": low - 1 and high + 1 do not. */
    private static void keysBesideTheRangeAreNotRead() {
        String sentence = "P7 the keys beside the range are not read";
        for (int low = 0; low < 32; low++) {
            for (int high = low; high < 32; high++) {
                if (low > 0) {
                    changeAfterCount(sentence, low, high, low - 1, false);
                }
                if (high < 31) {
                    changeAfterCount(sentence, low, high, high + 1, false);
                }
            }
        }
    }

    /** "from then on": a later range takes nothing from an earlier one. */
    private static void keysOfAllRangesAreRead() {
        for (int key = 0; key < 32; key++) {
            Log x = new Log("P7 the keys of every range counted are read");
            x.begin(0);
            x.read(0, 30);
            x.countRange(0, 3, 5);
            x.countRange(0, 10, 10);
            x.commitWrite(1, key, 1);
            boolean read = key >= 3 && key <= 5 || key == 10 || key == 30;
            x.commit(0).is(read ? MeldLog.CONFLICT : 2);
        }
    }

    /** "count as read": in the transaction that counts them, and in no other. */
    private static void noOtherTransactionHasRead() {
        Readings.areThatTransactionsAlone("P7", (x, t) -> x.countRange(t, 0, 31));
    }

    /** "all keys": also those that the transaction itself has written or erased. */
    private static void ownChangesCountAsRead() {
        Log x = new Log("P7 own writes and erasures count as read");
        x.begin(0);
        x.begin(1);
        x.write(0, 4, 1);
        x.countRange(0, 3, 5).is(1);
        x.erase(1, 4);
        x.countRange(1, 3, 5).is(0);
        x.commitWrite(2, 4, 2);
        x.commit(0).is(MeldLog.CONFLICT);
        x.commit(1).is(MeldLog.CONFLICT);
    }

    /** "t outside 0..3 ... BAD" */
    private static void transactionOutsideIsBad() {
        Refusals.transactionOutsideIsBad("P7", (x, t) -> x.countRange(t, 0, 31));
    }

    /** "low ... outside 0..31 ... BAD": also where low is not above high. */
    private static void lowOutsideIsBad() {
        Refusals.keyOutsideIsBad("P7 low:", (x, t, low) -> x.countRange(t, low, 31));
        Refusals.keyOutsideIsBad("P7 low and high:", (x, t, both) -> x.countRange(t, both, both));
    }

    /** "high outside 0..31 ... BAD": also where low is not above high. */
    private static void highOutsideIsBad() {
        Refusals.keyOutsideIsBad("P7 high:", (x, t, high) -> x.countRange(t, 0, high));
        Log x = new Log("P7 low and high outside 0..31 are BAD");
        x.begin(0);
        x.countRange(0, -1, 32).is(MeldLog.BAD);
        x.countRange(0, Edges.MIN, Edges.MAX).is(MeldLog.BAD);
        x.countRange(0, Edges.MAX, Edges.MIN).is(MeldLog.BAD);
    }

    /** "low > high: BAD" */
    private static void lowAboveHighIsBad() {
        for (int high = 0; high < 31; high++) {
            Log x = new Log("P7 low above high is BAD");
            x.begin(0);
            for (int low = high + 1; low < 32; low++) {
                x.countRange(0, low, high).is(MeldLog.BAD);
            }
        }
    }

    /** "low > high: BAD": a range of one key is none such. */
    private static void lowEqualToHighIsFine() {
        Log x = new Log("P7 a range of one key is fine");
        x.begin(0);
        x.write(0, 0, 1);
        x.write(0, 15, 1);
        x.write(0, 31, 1);
        for (int key = 0; key < 32; key++) {
            x.countRange(0, key, key).is(key == 0 || key == 15 || key == 31 ? 1 : 0);
        }
    }

    /** "t is not open: CLOSED" */
    private static void notOpenIsClosed() {
        Refusals.notOpenIsClosed("P7", (x, t) -> x.countRange(t, 0, 31));
        Refusals.notOpenIsClosed("P7", (x, t) -> x.countRange(t, 5, 5));
    }
}
