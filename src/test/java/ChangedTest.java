/** Promise 14: changed. */
public final class ChangedTest {
    public static void main(String[] args) {
        countsFromTheStateAfterSToT();
        countsEachKeyOnce();
        countsEachKey();
        countsNoneToThirty();
        sameValueIsAChange();
        erasureOfNoneIsAChange();
        thereAndBackIsAChange();
        readsAndOpenOnesAreNoChange();
        badIfOneIsNotThere();
        badIfSIsNotBelowT();
        goneIfSIsNotKept();
        goneIfBothAreNotKept();
        Checks.finish();
    }

    /** "one of the states s + 1 .. t": not what made s, but what made s + 1 and t, and not what made t + 1. */
    private static void countsFromTheStateAfterSToT() {
        for (int last = 1; last <= 30; last++) {
            for (int made = Math.max(1, last - 7); made <= last; made++) {
                Log x = new Log("P14 a commit counts for s + 1 to t");
                x.commitNothing(0, made - 1);
                x.commitWrite(0, 31, 1);
                x.commitNothing(0, last - made);
                for (int s = Math.max(0, last - 5); s <= last; s++) {
                    for (int t = s + 1; t <= last; t++) {
                        x.changed(s, t).is(s < made && made <= t ? 1 : 0);
                    }
                }
            }
        }
    }

    /** "The number of keys": not of commits. */
    private static void countsEachKeyOnce() {
        Log x = new Log("P14 a key changed twice counts once");
        x.commitWrite(0, 1, 1);
        x.commitWrite(0, 1, 2);
        x.commitErase(0, 1);
        x.commitWrite(0, 2, 1);
        x.changed(0, 3).is(1);
        x.changed(0, 4).is(2);
        x.changed(2, 4).is(2);
        x.changed(3, 4).is(1);
    }

    /** "The number of keys that are changed between two kept states s < t.": each of the 32, written or erased. */
    private static void countsEachKey() {
        for (int key = 0; key < 32; key++) {
            Log x = new Log("P14 each key counts");
            x.commitWrite(0, key, 1);
            x.commitErase(0, key);
            x.changed(0, 1).is(1);
            x.changed(1, 2).is(1);
            x.changed(0, 2).is(1);
        }
    }

    /** "The number of keys": from none to six in each of five states. */
    private static void countsNoneToThirty() {
        Log x = new Log("P14 none to 30 keys are counted");
        x.commitNothing(0, 5);
        x.changed(0, 5).is(0);
        x.changed(4, 5).is(0);
        x.commitAllKeys(0);
        x.changed(10, 11).is(2);
        x.changed(6, 11).is(26);
        x.changed(6, 10).is(24);
        Log y = new Log("P14 none to 30 keys are counted");
        y.commitAllKeys(0);
        y.changed(1, 6).is(26);
        Log z = new Log("P14 none to 30 keys are counted");
        for (int state = 1; state <= 5; state++) {
            z.begin(0);
            z.writeKeys(0, 32 - 6 * state, 6);
            z.commit(0);
            z.changed(0, state).is(6 * state);
        }
    }

    /** "also if it gave it the value that it had" */
    private static void sameValueIsAChange() {
        for (int value : Edges.ANY_VALUE) {
            Log x = new Log("P14 the value that it had is a change");
            x.commitWrite(0, 5, value);
            x.commitWrite(0, 5, value);
            x.changed(1, 2).is(1);
        }
    }

    /** "wrote or erased it" */
    private static void erasureOfNoneIsAChange() {
        Log x = new Log("P14 an erasure where there was no value is a change");
        x.commitErase(0, 5);
        x.commitErase(0, 5);
        x.changed(0, 1).is(1);
        x.changed(1, 2).is(1);
    }

    /** "some commit ... wrote or erased it": also if it is as before in the end. */
    private static void thereAndBackIsAChange() {
        Log x = new Log("P14 there and back again is a change");
        x.commitWrite(0, 5, 50);
        x.commitWrite(0, 5, 51);
        x.commitWrite(0, 5, 50);
        x.changed(1, 3).is(1);
        x.commitErase(0, 5);
        x.changed(0, 4).is(1);
        x.begin(0);
        x.write(0, 6, 1);
        x.erase(0, 6);
        x.commit(0).is(5);
        x.changed(4, 5).is(1);
    }

    /** "some commit that made one of the states ... wrote or erased it" */
    private static void readsAndOpenOnesAreNoChange() {
        Log x = new Log("P14 reads, and writes without a commit, are no change");
        x.begin(0);
        x.countRange(0, 0, 31);
        x.begin(1);
        x.write(1, 5, 1);
        x.begin(2);
        x.write(2, 6, 1);
        x.abort(2);
        x.commit(0).is(1);
        x.changed(0, 1).is(0);
        x.begin(0);
        x.read(0, 7);
        x.write(0, 8, 1);
        x.commitWrite(2, 7, 1);
        x.commit(0).is(MeldLog.CONFLICT);
        x.changed(1, 2).is(1);
        x.commit(1).is(3);
        x.changed(2, 3).is(1);
        x.changed(0, 3).is(2);
    }

    /** "BAD if one of them is not there": -1 and latest + 1, and further off, as s, as t, and as both. */
    private static void badIfOneIsNotThere() {
        for (int last = 0; last <= 20; last++) {
            Log x = new Log("P14 changed is BAD if one is not there");
            x.commitNothing(0, last);
            for (int state : Edges.noState(last)) {
                x.changed(state, last).is(MeldLog.BAD);
                x.changed(Math.max(0, last - 5), state).is(MeldLog.BAD);
                x.changed(state, state).is(MeldLog.BAD);
                x.changed(state, last + 1).is(MeldLog.BAD);
                x.changed(-1, state).is(MeldLog.BAD);
            }
            x.changed(Edges.MIN, Edges.MAX).is(MeldLog.BAD);
            x.changed(Edges.MAX, Edges.MIN).is(MeldLog.BAD);
        }
    }

    /** "BAD if ... s >= t": s = t and s = t + 1 are, s = t - 1 is not. */
    private static void badIfSIsNotBelowT() {
        for (int last = 1; last <= 20; last++) {
            Log x = new Log("P14 changed is BAD if s >= t");
            x.commitNothing(0, last);
            for (int t = Math.max(0, last - 5); t <= last; t++) {
                for (int s = t; s <= last; s++) {
                    x.changed(s, t).is(MeldLog.BAD);
                }
                if (t > Math.max(0, last - 5)) {
                    x.changed(t - 1, t).is(0);
                }
            }
        }
    }

    /** "GONE if one is not kept": s = latest - 5 is kept, s = latest - 6 is not. */
    private static void goneIfSIsNotKept() {
        for (int last = 1; last <= 30; last++) {
            Log x = new Log("P14 changed is GONE if s is not kept");
            x.commitStates(0, last);
            for (int s = 0; s < last; s++) {
                x.changed(s, last).is(s >= last - 5 ? last - s : MeldLog.GONE);
            }
        }
    }

    /** "GONE if one is not kept": also if both are not. */
    private static void goneIfBothAreNotKept() {
        for (int last = 7; last <= 20; last++) {
            Log x = new Log("P14 changed is GONE if both are not kept");
            x.commitStates(0, last);
            for (int t = 1; t <= last - 6; t++) {
                x.changed(0, t).is(MeldLog.GONE);
                x.changed(t - 1, t).is(MeldLog.GONE);
            }
            x.changed(last - 6, last - 5).is(MeldLog.GONE);
            x.changed(last - 5, last - 4).is(1);
        }
    }
}
