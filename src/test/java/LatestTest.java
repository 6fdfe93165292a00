/** Promise 10: latest. */
public final class LatestTest {
    public static void main(String[] args) {
        isZeroInTheBeginning();
        growsByOneWithEachCommit();
        staysWithAllElse();
        Checks.finish();
    }

    /** "The number of the latest state.": "state 0 ... is there in the beginning". */
    private static void isZeroInTheBeginning() {
        Log x = new Log("P10 latest is 0 in the beginning");
        x.latest().is(0);
        x.latest().is(0);
    }

    /** "The number of the latest state.": past all the places where states cease to be kept. */
    private static void growsByOneWithEachCommit() {
        Log x = new Log("P10 latest grows by one with each commit");
        for (int state = 1; state <= 128; state++) {
            x.begin(state % 4);
            x.latest().is(state - 1);
            x.commit(state % 4);
            x.latest().is(state);
        }
    }

    /** "The number of the latest state.": "every commit that succeeds makes the next one", and no other call. */
    private static void staysWithAllElse() {
        Log x = new Log("P10 latest grows with nothing but a commit that succeeds");
        x.commitNothing(0, 3);
        x.begin(0);
        x.latest().is(3);
        x.write(0, 1, 1);
        x.erase(0, 2);
        x.latest().is(3);
        x.read(0, 3);
        x.countRange(0, 0, 31);
        x.latest().is(3);
        x.begin(1);
        x.abort(1);
        x.latest().is(3);
        x.commitWrite(1, 3, 1);
        x.latest().is(4);
        x.commit(0).is(MeldLog.CONFLICT);
        x.latest().is(4);
        x.commit(0).is(MeldLog.CLOSED);
        x.commit(4).is(MeldLog.BAD);
        x.commit(-1).is(MeldLog.BAD);
        x.latest().is(4);
    }
}
