/** Promises 10 to 14: what is asked of the states. */
public final class StatePromisesTest {
    private static final int[] NO_KEY = {-1, 32, 33, 64, Integer.MIN_VALUE, Integer.MAX_VALUE};
    private static final int KEPT = 6;

    public static void main(String[] args) {
        latest();
        has();
        at();
        keptStates();
        size();
        changed();
        changedRefusals();
        changedCountsKeysOnce();
        Checks.finish();
    }

    /** Makes states 1 to last; state n gives key n % 32 the value 100 + n. */
    private static MeldLog withStates(int last) {
        MeldLog x = new MeldLog();
        for (int state = 1; state <= last; state++) {
            x.begin(0);
            x.write(0, state % 32, 100 + state);
            x.commit(0);
        }
        return x;
    }

    private static void latest() {
        MeldLog x = new MeldLog();
        for (int state = 1; state <= 80; state++) {
            x.begin(1);
            x.begin(2);
            Checks.due("P10 latest() before the commit", x.latest(), state - 1);
            x.commit(1);
            Checks.due("P10 latest() after the commit", x.latest(), state);
            x.abort(2);
        }
        Checks.due("P10 latest() after an abort", x.latest(), 80);
    }

    private static void has() {
        MeldLog x = withStates(3);
        Checks.due("P11 has(0, 1)", x.has(0, 1), false);
        Checks.due("P11 has(1, 1)", x.has(1, 1), true);
        Checks.due("P11 has(1, 2)", x.has(1, 2), false);
        Checks.due("P11 has(3, 1)", x.has(3, 1), true);
        Checks.due("P11 has(4, 1)", x.has(4, 1), false);
        Checks.due("P11 has(-1, 1)", x.has(-1, 1), false);
        Checks.due("P11 has(MIN, 1)", x.has(Integer.MIN_VALUE, 1), false);
        Checks.due("P11 has(MAX, 1)", x.has(Integer.MAX_VALUE, 1), false);
        MeldLog y = withStates(40);
        for (int key : NO_KEY) {
            Checks.due("P11 has(40, " + key + ")", y.has(40, key), false);
        }
        for (int key = 0; key < 32; key++) {
            Checks.due("P11 has(40, " + key + ")", y.has(40, key), true);
        }
    }

    private static void at() {
        MeldLog x = withStates(3);
        Checks.due("P12 at(0, 1)", x.at(0, 1), 0);
        Checks.due("P12 at(1, 1)", x.at(1, 1), 101);
        Checks.due("P12 at(1, 2)", x.at(1, 2), 0);
        Checks.due("P12 at(3, 1)", x.at(3, 1), 101);
        Checks.due("P12 at(3, 3)", x.at(3, 3), 103);
        Checks.due("P12 at(4, 1)", x.at(4, 1), 0);
        Checks.due("P12 at(-1, 1)", x.at(-1, 1), 0);
        Checks.due("P12 at(MIN, 1)", x.at(Integer.MIN_VALUE, 1), 0);
        Checks.due("P12 at(MAX, 1)", x.at(Integer.MAX_VALUE, 1), 0);
        MeldLog y = withStates(40);
        for (int key : NO_KEY) {
            Checks.due("P12 at(40, " + key + ")", y.at(40, key), 0);
        }
        Checks.due("P12 at(40, 31)", y.at(40, 31), 131);
        Checks.due("P12 at(40, 0)", y.at(40, 0), 132);
        Checks.due("P12 at(40, 8)", y.at(40, 8), 140);
        Checks.due("P12 at(39, 8)", y.at(39, 8), 108);
    }

    private static void keptStates() {
        for (int last = 1; last <= 40; last++) {
            MeldLog x = withStates(last);
            for (int state = 1; state <= last; state++) {
                boolean kept = state > last - KEPT;
                String where = "(" + state + ", " + state % 32 + ") of " + last;
                Checks.due("P11 has" + where, x.has(state, state % 32), kept);
                Checks.due("P12 at" + where, x.at(state, state % 32), kept ? 100 + state : 0);
            }
        }
    }

    private static void size() {
        for (int last = 0; last <= 40; last++) {
            MeldLog x = withStates(last);
            for (int state = 0; state <= last; state++) {
                int due = state > last - KEPT ? Math.min(state, 32) : MeldLog.GONE;
                Checks.due("P13 size(" + state + ") of " + last, x.size(state), due);
            }
            Checks.due("P13 size(latest + 1)", x.size(last + 1), MeldLog.BAD);
            Checks.due("P13 size(-1)", x.size(-1), MeldLog.BAD);
            Checks.due("P13 size(MIN)", x.size(Integer.MIN_VALUE), MeldLog.BAD);
            Checks.due("P13 size(MAX)", x.size(Integer.MAX_VALUE), MeldLog.BAD);
        }
    }

    private static void changed() {
        for (int last = 1; last <= 40; last++) {
            MeldLog x = withStates(last);
            int first = Math.max(0, last - KEPT + 1);
            for (int s = first; s <= last; s++) {
                for (int t = first; t <= last; t++) {
                    int due = s < t ? t - s : MeldLog.BAD;
                    Checks.due("P14 changed(" + s + ", " + t + ") of " + last, x.changed(s, t), due);
                }
            }
        }
    }

    private static void changedRefusals() {
        MeldLog x = withStates(10);
        Checks.due("P14 changed(4, 10)", x.changed(4, 10), MeldLog.GONE);
        Checks.due("P14 changed(0, 4)", x.changed(0, 4), MeldLog.GONE);
        Checks.due("P14 changed(0, 10)", x.changed(0, 10), MeldLog.GONE);
        Checks.due("P14 changed(5, 10)", x.changed(5, 10), 5);
        Checks.due("P14 changed(5, 11)", x.changed(5, 11), MeldLog.BAD);
        Checks.due("P14 changed(-1, 10)", x.changed(-1, 10), MeldLog.BAD);
        Checks.due("P14 changed(11, 12)", x.changed(11, 12), MeldLog.BAD);
        Checks.due("P14 changed(-2, -1)", x.changed(-2, -1), MeldLog.BAD);
        Checks.due("P14 changed(MIN, MAX)", x.changed(Integer.MIN_VALUE, Integer.MAX_VALUE), MeldLog.BAD);
        Checks.due("P14 changed(MAX, MIN)", x.changed(Integer.MAX_VALUE, Integer.MIN_VALUE), MeldLog.BAD);
        Checks.due("P14 changed(9, MAX)", x.changed(9, Integer.MAX_VALUE), MeldLog.BAD);
    }

    private static void changedCountsKeysOnce() {
        MeldLog x = new MeldLog();
        x.begin(0);
        x.write(0, 1, 10);
        x.write(0, 31, 310);
        x.commit(0);
        x.begin(0);
        x.write(0, 1, 10);
        x.erase(0, 2);
        x.commit(0);
        x.begin(0);
        x.read(0, 5);
        x.commit(0);
        x.begin(0);
        x.erase(0, 1);
        x.write(0, 1, 10);
        x.abort(0);
        x.begin(0);
        x.erase(0, 31);
        x.commit(0);
        Checks.due("P14 changed(0, 1)", x.changed(0, 1), 2);
        Checks.due("P14 changed(1, 2): the value it had, an erasure of nothing", x.changed(1, 2), 2);
        Checks.due("P14 changed(0, 2): a key twice", x.changed(0, 2), 3);
        Checks.due("P14 changed(2, 3): reads are no changes", x.changed(2, 3), 0);
        Checks.due("P14 changed(3, 4)", x.changed(3, 4), 1);
        Checks.due("P14 changed(0, 4): there and back again", x.changed(0, 4), 3);
        Checks.due("P14 changed(1, 4)", x.changed(1, 4), 3);
    }
}
