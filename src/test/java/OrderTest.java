/** Promise 15: the order of refusals, and that a refused call changes nothing. */
public final class OrderTest {
    public static void main(String[] args) {
        badBeforeClosed();
        badBeforeFull();
        badBeforeGone();
        refusedReadsAreNoReads();
        refusedCallsChangeNothing();
        Checks.finish();
    }

    private static void badBeforeClosed() {
        MeldLog x = new MeldLog();
        Checks.due("P15 write(0, 32, 1) closed", x.write(0, 32, 1), MeldLog.BAD);
        Checks.due("P15 erase(0, -1) closed", x.erase(0, -1), MeldLog.BAD);
        Checks.due("P15 read(0, 32) closed", x.read(0, 32), MeldLog.BAD);
        Checks.due("P15 countRange(0, 0, 32) closed", x.countRange(0, 0, 32), MeldLog.BAD);
        Checks.due("P15 countRange(0, -1, 3) closed", x.countRange(0, -1, 3), MeldLog.BAD);
        Checks.due("P15 countRange(0, 4, 3) closed", x.countRange(0, 4, 3), MeldLog.BAD);
        Checks.due("P15 write(4, 32, 1)", x.write(4, 32, 1), MeldLog.BAD);
        Checks.due("P15 countRange(-1, 4, 3)", x.countRange(-1, 4, 3), MeldLog.BAD);
    }

    private static void badBeforeFull() {
        MeldLog x = new MeldLog();
        x.begin(0);
        for (int key = 0; key < 6; key++) {
            x.write(0, key, key);
        }
        Checks.due("P15 write(0, 32, 1) full", x.write(0, 32, 1), MeldLog.BAD);
        Checks.due("P15 erase(0, 32) full", x.erase(0, 32), MeldLog.BAD);
        Checks.due("P15 write(0, 6, 1) full", x.write(0, 6, 1), MeldLog.FULL);
        x.commit(0);
        Checks.due("P15 write(0, 6, 1) was full, is closed", x.write(0, 6, 1), MeldLog.CLOSED);
        Checks.due("P15 erase(0, 6) was full, is closed", x.erase(0, 6), MeldLog.CLOSED);
    }

    private static void badBeforeGone() {
        MeldLog x = new MeldLog();
        for (int i = 0; i < 9; i++) {
            x.begin(0);
            x.commit(0);
        }
        Checks.due("P15 changed(2, 2) gone", x.changed(2, 2), MeldLog.BAD);
        Checks.due("P15 changed(3, 2) gone", x.changed(3, 2), MeldLog.BAD);
        Checks.due("P15 changed(9, 2) gone", x.changed(9, 2), MeldLog.BAD);
        Checks.due("P15 changed(2, 10) gone", x.changed(2, 10), MeldLog.BAD);
        Checks.due("P15 changed(-1, 2) gone", x.changed(-1, 2), MeldLog.BAD);
        Checks.due("P15 changed(2, 9) gone", x.changed(2, 9), MeldLog.GONE);
    }

    private static void refusedReadsAreNoReads() {
        MeldLog x = new MeldLog();
        x.begin(0);
        x.read(0, 32);
        x.read(0, -1);
        x.countRange(0, 0, 32);
        x.countRange(0, -1, 31);
        x.countRange(0, 31, 0);
        x.begin(1);
        for (int key = 0; key < 6; key++) {
            x.write(1, key * 6 + (key == 5 ? 1 : 0), 1);
        }
        Checks.due("P15 commit(1)", x.commit(1), 1);
        Checks.due("P15 commit(0): refused reads are no reads", x.commit(0), 2);

        x.read(2, 8);
        x.countRange(2, 0, 31);
        x.begin(2);
        x.begin(3);
        x.write(3, 8, 1);
        x.commit(3);
        Checks.due("P15 commit(2): reads before begin are no reads", x.commit(2), 4);
    }

    private static void refuseMany(MeldLog x) {
        x.begin(-1);
        x.begin(4);
        Checks.due("P15 begin(0)", x.begin(0), MeldLog.OPEN);
        x.write(0, 32, 5);
        x.write(4, 1, 5);
        Checks.due("P15 write(1, 1, 5)", x.write(1, 1, 5), MeldLog.CLOSED);
        Checks.due("P15 write(0, 20, 5)", x.write(0, 20, 5), MeldLog.FULL);
        x.erase(0, -1);
        Checks.due("P15 erase(1, 1)", x.erase(1, 1), MeldLog.CLOSED);
        Checks.due("P15 erase(0, 10)", x.erase(0, 10), MeldLog.FULL);
        Checks.due("P15 commit(1)", x.commit(1), MeldLog.CLOSED);
        x.commit(4);
        x.commit(-1);
        Checks.due("P15 abort(1)", x.abort(1), MeldLog.CLOSED);
        x.abort(4);
        x.abort(-1);
    }

    private static void refusedCallsChangeNothing() {
        MeldLog x = new MeldLog();
        x.begin(1);
        x.write(1, 10, 100);
        x.write(1, 1, 11);
        x.commit(1);
        x.begin(0);
        for (int key = 0; key < 6; key++) {
            x.write(0, key, 50 + key);
        }
        x.read(0, 15);
        x.begin(2);
        x.write(2, 1, 12);
        x.commit(2);
        refuseMany(x);
        Checks.due("P15 latest()", x.latest(), 2);
        Checks.due("P15 at(2, 1)", x.at(2, 1), 12);
        Checks.due("P15 size(2)", x.size(2), 2);
        for (int key = 0; key < 6; key++) {
            Checks.due("P15 peek(0, " + key + ")", x.peek(0, key), 50 + key);
        }
        Checks.due("P15 peek(0, 10)", x.peek(0, 10), 100);
        Checks.due("P15 peek(0, 20)", x.peek(0, 20), 0);
        Checks.due("P15 begin(1): still closed", x.begin(1), 2);
        Checks.due("P15 write(1, 30, 1): nothing written before", x.write(1, 30, 1), 1);
        Checks.due("P15 commit(1)", x.commit(1), 3);
        Checks.due("P15 commit(0): the base is the old one, key 15 unchanged", x.commit(0), 4);
        Checks.due("P15 at(4, 10)", x.at(4, 10), 100);
        Checks.due("P15 has(4, 20)", x.has(4, 20), false);
        Checks.due("P15 size(4)", x.size(4), 8);

        MeldLog y = new MeldLog();
        y.begin(0);
        y.read(0, 3);
        y.begin(1);
        y.write(1, 3, 1);
        y.commit(1);
        Checks.due("P15 begin(0) refused", y.begin(0), MeldLog.OPEN);
        Checks.due("P15 commit(0): base and reads are the old ones", y.commit(0), MeldLog.CONFLICT);
    }
}
