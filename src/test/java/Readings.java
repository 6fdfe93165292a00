/** What promises 5 and 7 say alike of keys that count as read; each test that uses it gives its own call. */
final class Readings {
    private Readings() {
    }

    /** Key 9 is read in one of the four, changed by another, and the two that are left have nothing to do with it. */
    static void areThatTransactionsAlone(String promise, Refusals.InTransaction readOfNine) {
        for (int t = 0; t < 4; t++) {
            for (int writer = 0; writer < 4; writer++) {
                if (writer != t) {
                    Log x = new Log(promise + " a reading is that transaction's alone");
                    x.beginAll();
                    readOfNine.call(x, t).is(0);
                    x.write(writer, 9, 1);
                    commitAllBut(x, t, writer);
                    x.commit(t).is(MeldLog.CONFLICT);
                    x.latest().is(3);
                }
            }
        }
    }

    /** The first makes its state before the others, which make theirs in spite of it. */
    private static void commitAllBut(Log x, int reader, int first) {
        x.commit(first).is(1);
        int state = 1;
        for (int t = 0; t < 4; t++) {
            if (t != reader && t != first) {
                state++;
                x.commit(t).is(state);
            }
        }
    }
}
