/** The sentences under "Terms", where they name a boundary case that is not one promise's own. */
public final class TermsTest {
    public static void main(String[] args) {
        thereAreThirtyTwoKeys();
        aKeyHasAnyIntOrNone();
        stateZeroIsEmpty();
        everyCommitThatSucceedsMakesTheNext();
        latestHasTheGreatestNumber();
        allAreKeptWhileThereAreFewer();
        latestSixAreKept();
        oldStatesStayAsTheyWere();
        thereAreFourTransactions();
        baseIsTheLatestOfItsBegin();
        baseIsReadWhenNoLongerKept();
        baseNoLongerKeptIsStillTheBase();
        upToSixKeys();
        whatItGaveThemIsTheLast();
        readKeysAreASet();
        viewIsTheBaseWithItsOwnChanges();
        changedIsTheSameForConflictsAndCounts();
        Checks.finish();
    }

    /** "There are 32 KEYS, 0 to 31": each has a place of its own in states and views. */
    private static void thereAreThirtyTwoKeys() {
        Log x = new Log("Terms: there are 32 keys, 0 to 31");
        x.commitAllKeys(0);
        x.size(6).is(32);
        x.begin(1);
        for (int key = 0; key < 32; key++) {
            x.has(6, key).is(true);
            x.at(6, key).is(100 + key);
            x.peek(1, key).is(100 + key);
            x.read(1, key).is(1);
        }
        for (int key : new int[] {-1, 32, Edges.MIN, Edges.MAX}) {
            x.write(1, key, 1).is(MeldLog.BAD);
            x.erase(1, key).is(MeldLog.BAD);
            x.read(1, key).is(MeldLog.BAD);
            x.peek(1, key).is(0);
            x.countRange(1, key, 31).is(MeldLog.BAD);
            x.countRange(1, 0, key).is(MeldLog.BAD);
            x.has(6, key).is(false);
            x.at(6, key).is(0);
        }
    }

    /** "in a STATE every key has a value, any int, or none": the smallest, the greatest, and 0, which is not none. */
    private static void aKeyHasAnyIntOrNone() {
        for (int value : Edges.ANY_VALUE) {
            for (int key : new int[] {0, 31}) {
                Log x = new Log("Terms: a key has any int or none");
                x.commitWrite(0, key, value);
                x.commitErase(0, key);
                x.commitWrite(0, key, value);
                x.at(1, key).is(value);
                x.has(1, key).is(true);
                x.size(1).is(1);
                x.at(2, key).is(0);
                x.has(2, key).is(false);
                x.size(2).is(0);
                x.at(3, key).is(value);
                x.has(3, key).is(true);
                x.size(3).is(1);
            }
        }
    }

    /** "state 0, in which no key has a value, is there in the beginning": and so it stays while it is kept. */
    private static void stateZeroIsEmpty() {
        Log x = new Log("Terms: in state 0 no key has a value");
        for (int last = 0; last <= 5; last++) {
            x.size(0).is(0);
            for (int key = 0; key < 32; key++) {
                x.has(0, key).is(false);
                x.at(0, key).is(0);
            }
            x.commitWrite(0, last, 1);
        }
        x.size(0).is(MeldLog.GONE);
    }

    /** "States are numbered; ... every commit that succeeds makes the next one" */
    private static void everyCommitThatSucceedsMakesTheNext() {
        Log x = new Log("Terms: every commit that succeeds makes the next state");
        x.beginAll();
        x.write(0, 1, 1);
        x.read(3, 1);
        x.commit(0).is(1);
        x.commit(3).is(MeldLog.CONFLICT);
        x.commit(1).is(2);
        x.commit(3).is(MeldLog.CLOSED);
        x.commit(2).is(3);
        x.latest().is(3);
    }

    /** "The LATEST state is the one with the greatest number" */
    private static void latestHasTheGreatestNumber() {
        Log x = new Log("Terms: the latest state has the greatest number");
        for (int last = 0; last <= 80; last++) {
            x.latest().is(last);
            x.size(last).is(0);
            x.size(last + 1).is(MeldLog.BAD);
            x.commitNothing(last % 4, 1);
        }
    }

    private static void looksKept(Log x, int state, int last, boolean kept) {
        x.size(state).is(kept ? 1 : MeldLog.GONE);
        x.has(state, 9).is(kept);
        x.at(state, 9).is(kept ? 900 : 0);
        if (state < last) {
            x.changed(state, last).is(kept ? 0 : MeldLog.GONE);
        }
    }

    /** "all of them as long as there are fewer": with up to six states, state 0 is kept. */
    private static void allAreKeptWhileThereAreFewer() {
        for (int last = 0; last <= 6; last++) {
            Log x = new Log("Terms: all states are kept as long as there are fewer");
            x.commitStates(0, last);
            x.size(0).is(last <= 5 ? 0 : MeldLog.GONE);
            if (last > 0) {
                x.changed(0, last).is(last <= 5 ? last : MeldLog.GONE);
            }
            for (int state = 1; state <= last; state++) {
                x.size(state).is(state);
                x.at(state, state).is(100 + state);
            }
        }
    }

    /** "the latest 6 states are KEPT": latest - 5 is one of them, latest - 6 is not. */
    private static void latestSixAreKept() {
        for (int last = 1; last <= 40; last++) {
            Log x = new Log("Terms: the latest 6 states are kept");
            x.commitWrite(0, 9, 900);
            x.commitNothing(0, last - 1);
            for (int state = 1; state <= last; state++) {
                looksKept(x, state, last, state >= last - 5);
            }
        }
    }

    /** "the latest 6 states are KEPT": as they were made; what later commits do is not seen in them. */
    private static void oldStatesStayAsTheyWere() {
        Log x = new Log("Terms: old states stay as they were");
        for (int last = 1; last <= 30; last++) {
            int base = x.begin(last % 4).got;
            x.write(last % 4, 7, last);
            x.write(last % 4, 8 + last % 2, last);
            x.erase(last % 4, 9 - last % 2);
            x.commit(last % 4).is(base + 1);
            int state = Math.max(1, last - 5);
            x.at(state, 7).is(state);
            x.at(state, 8 + state % 2).is(state);
            x.has(state, 9 - state % 2).is(false);
            x.size(state).is(2);
        }
    }

    /** "There are four TRANSACTIONS, 0 to 3, each open or not." */
    private static void thereAreFourTransactions() {
        for (int open = 0; open < 16; open++) {
            Log x = new Log("Terms: there are four transactions, each open or not");
            for (int t = 0; t < 4; t++) {
                if ((open >> t & 1) != 0) {
                    x.begin(t).is(0);
                }
            }
            for (int t = 0; t < 4; t++) {
                x.write(t, 5, t).is((open >> t & 1) != 0 ? 1 : MeldLog.CLOSED);
            }
            for (int t = 0; t < 4; t++) {
                x.peek(t, 5).is((open >> t & 1) != 0 ? t : 0);
                x.abort(t).is((open >> t & 1) != 0 ? 1 : MeldLog.CLOSED);
            }
            x.begin(-1).is(MeldLog.BAD);
            x.begin(4).is(MeldLog.BAD);
        }
    }

    /** "An open transaction has a BASE, the state that was the latest when it was begun": each its own. */
    private static void baseIsTheLatestOfItsBegin() {
        for (int t = 0; t < 3; t++) {
            for (int key = 1; key <= 4; key++) {
                Log x = new Log("Terms: the base is the state that was the latest when it was begun");
                for (int each = 0; each < 3; each++) {
                    x.begin(each).is(each);
                    x.commitWrite(3, each + 1, 101 + each);
                }
                x.peek(t, key).is(key <= t ? 100 + key : 0);
                x.read(t, key).is(key <= t ? 1 : 0);
                x.commit(t).is(t < key && key <= 3 ? MeldLog.CONFLICT : 4);
            }
        }
    }

    /** "it can read there even when this state is no longer kept": from none to many states after it. */
    private static void baseIsReadWhenNoLongerKept() {
        for (int after = 0; after <= 40; after++) {
            Log x = new Log("Terms: a base that is no longer kept can be read");
            x.commitWrite(0, 5, 50);
            x.commitWrite(0, 31, 0);
            x.begin(3).is(2);
            for (int i = 0; i < after; i++) {
                x.begin(i % 3);
                x.write(i % 3, 5, i);
                x.write(i % 3, i % 5, i);
                x.erase(i % 3, 31);
                x.commit(i % 3).is(3 + i);
            }
            x.size(2).is(after <= 5 ? 2 : MeldLog.GONE);
            x.peek(3, 5).is(50);
            x.peek(3, 31).is(0);
            x.peek(3, 0).is(0);
            x.countRange(3, 0, 31).is(2);
            x.countRange(3, 0, 4).is(0);
            x.read(3, 5).is(1);
            x.read(3, 31).is(1);
            x.read(3, 0).is(0);
        }
    }

    /** "An open transaction has a BASE": one that is no longer kept decides on conflicts as any other. */
    private static void baseNoLongerKeptIsStillTheBase() {
        for (int after = 0; after <= 40; after++) {
            Log x = new Log("Terms: a base that is no longer kept is still the base");
            x.commitWrite(0, 5, 50);
            x.begin(2).is(1);
            x.begin(3).is(1);
            x.read(2, 5).is(1);
            x.read(3, 6).is(0);
            x.write(2, 7, 70);
            x.erase(2, 8);
            x.commitWrite(0, 6, 60);
            x.commitWrite(0, 8, 80);
            x.commitNothing(0, after);
            x.commit(3).is(MeldLog.CONFLICT);
            x.commit(2).is(4 + after);
            x.at(4 + after, 5).is(50);
            x.at(4 + after, 6).is(60);
            x.at(4 + after, 7).is(70);
            x.has(4 + after, 8).is(false);
            x.size(4 + after).is(3);
            x.changed(3 + after, 4 + after).is(2);
        }
    }

    /** "a list of up to 6 keys that it has written or erased": the sixth is taken, the seventh is not. */
    private static void upToSixKeys() {
        for (int first = 0; first <= 25; first++) {
            Log x = new Log("Terms: up to 6 keys are written or erased");
            x.begin(0);
            x.writeKeys(0, first, 5);
            x.erase(0, first + 5).is(6);
            x.write(0, first + 6, 1).is(MeldLog.FULL);
            x.erase(0, first + 6).is(MeldLog.FULL);
            x.commit(0).is(1);
            x.changed(0, 1).is(6);
            x.size(1).is(5);
        }
    }

    /** "with what it gave them": the last of what it gave to a key. */
    private static void whatItGaveThemIsTheLast() {
        Log x = new Log("Terms: a key gets what it was given last");
        x.commitWrite(0, 4, 1);
        x.begin(0);
        x.write(0, 1, Edges.MIN);
        x.write(0, 1, Edges.MAX);
        x.write(0, 2, 5);
        x.erase(0, 2);
        x.erase(0, 3);
        x.write(0, 3, 0);
        x.erase(0, 4);
        x.erase(0, 4);
        x.commit(0).is(2);
        x.at(2, 1).is(Edges.MAX);
        x.has(2, 2).is(false);
        x.has(2, 3).is(true);
        x.at(2, 3).is(0);
        x.has(2, 4).is(false);
        x.size(2).is(2);
    }

    /** "the set of the keys that it has READ": by read and countRange, one after the other, some of them again. */
    private static void readKeysAreASet() {
        for (int key = 0; key < 32; key++) {
            Log x = new Log("Terms: the keys that it has read are a set");
            x.begin(0);
            x.read(0, 31);
            x.countRange(0, 10, 20);
            x.read(0, 15);
            x.read(0, 31);
            x.countRange(0, 18, 22);
            x.read(0, 0);
            x.commitWrite(1, key, 1);
            boolean read = key == 0 || key >= 10 && key <= 22 || key == 31;
            x.commit(0).is(read ? MeldLog.CONFLICT : 2);
        }
    }

    /** "Its VIEW is its base with its own writes and erasures.": and nothing of what came after the base. */
    private static void viewIsTheBaseWithItsOwnChanges() {
        for (int after = 0; after <= 12; after++) {
            Log x = new Log("Terms: the view is the base with its own changes");
            x.commitAllKeys(0);
            x.begin(0).is(6);
            x.write(0, 0, 1);
            x.erase(0, 1);
            for (int i = 0; i < after; i++) {
                x.commitErase(1, i);
                x.commitWrite(1, 31 - i, 2);
            }
            x.write(0, 30, 3);
            x.erase(0, 31);
            for (int key = 0; key < 32; key++) {
                int due = key == 0 ? 1 : key == 1 || key == 31 ? 0 : key == 30 ? 3 : 100 + key;
                x.peek(0, key).is(due);
                x.read(0, key).is(due == 0 ? 0 : 1);
            }
            x.countRange(0, 0, 31).is(30);
        }
    }

    /** "A key is CHANGED between two states s < t": by s + 1 to t, in the same way for a commit as for changed. */
    private static void changedIsTheSameForConflictsAndCounts() {
        for (int made = 1; made <= 4; made++) {
            for (int base = 0; base <= 3; base++) {
                Log x = new Log("Terms: changed is the same for commit and for changed");
                for (int state = 1; state <= 4; state++) {
                    if (base == state - 1) {
                        x.begin(0).is(base);
                        x.read(0, 5);
                    }
                    if (state == made) {
                        x.commitErase(1, 5);
                    } else {
                        x.commitNothing(1, 1);
                    }
                }
                x.changed(base, 4).is(base < made ? 1 : 0);
                x.commit(0).is(base < made ? MeldLog.CONFLICT : 5);
            }
        }
    }
}
