/** Promise 8: commit. */
public final class CommitTest {
    public static void main(String[] args) {
        closesThatTransactionAlone();
        transactionOutsideIsBad();
        notOpenIsClosed();
        conflictWithAnyStateSinceTheBase();
        changeThatMadeTheBaseIsNoConflict();
        anyKindOfChangeConflicts();
        noConflictWithoutARead();
        noConflictWithoutAChange();
        ownWritesAreNoConflict();
        abortedAndRefusedWritesAreNoChange();
        conflictMakesNoState();
        conflictClosesAllTheSame();
        conflictOfReadsAlone();
        nextStateIsTheLatestWithTheChanges();
        laterCommitWins();
        nextStateTakesAllSixKeys();
        nextStateTakesEachKey();
        commitOfNothingMakesAState();
        answersTheNextNumber();
        Checks.finish();
    }

    /** "Commits and closes a transaction.": that one. */
    private static void closesThatTransactionAlone() {
        for (int t = 0; t < 4; t++) {
            Log x = new Log("P8 commit closes that transaction, and no other");
            x.beginAll();
            x.commit(t).is(1);
            x.commit(t).is(MeldLog.CLOSED);
            for (int other = 0; other < 4; other++) {
                x.begin(other).is(other == t ? 1 : MeldLog.OPEN);
            }
        }
    }

    /** "BAD ... as above": "t outside 0..3" */
    private static void transactionOutsideIsBad() {
        Refusals.transactionOutsideIsBad("P8", (x, t) -> x.commit(t));
    }

    /** "CLOSED as above" */
    private static void notOpenIsClosed() {
        Refusals.notOpenIsClosed("P8", (x, t) -> x.commit(t));
    }

    /**
     * "changed between its base and the latest state": by the first state after the base, by the latest, by one
     * between, also by one that is no longer kept, and with a base that is no longer kept.
     */
    private static void conflictWithAnyStateSinceTheBase() {
        for (int before = 0; before < 20; before++) {
            for (int after = 0; after < 20; after++) {
                Log x = new Log("P8 a read key changed by any state since the base is a CONFLICT");
                x.commitNothing(1, 1);
                x.begin(0);
                x.read(0, 9);
                for (int i = 0; i < before; i++) {
                    x.commitWrite(1, 8, i);
                }
                x.begin(2);
                x.read(2, 9);
                x.commitWrite(1, 9, 1);
                for (int i = 0; i < after; i++) {
                    x.commitWrite(1, 10, i);
                }
                x.commit(0).is(MeldLog.CONFLICT);
                x.commit(2).is(MeldLog.CONFLICT);
                x.latest().is(before + after + 2);
            }
        }
    }

    /** "changed between its base and the latest state": not by the commit that made the base, nor by one before. */
    private static void changeThatMadeTheBaseIsNoConflict() {
        for (int between = 0; between < 10; between++) {
            for (int after = 0; after < 20; after++) {
                Log x = new Log("P8 a change up to the base is no CONFLICT");
                x.commitWrite(1, 9, 1);
                x.commitNothing(1, between);
                x.begin(0).is(1 + between);
                x.read(0, 9).is(1);
                x.commitNothing(1, after);
                x.commit(0).is(2 + between + after);
            }
        }
    }

    /** "changed": "also if it gave it the value that it had", an erasure of none, and there and back again. */
    private static void anyKindOfChangeConflicts() {
        Log x = new Log("P8 any kind of change is a CONFLICT");
        x.commitWrite(0, 5, 50);
        x.begin(0);
        x.read(0, 5);
        x.begin(1);
        x.read(1, 7);
        x.commitWrite(3, 5, 50);
        x.commit(0).is(MeldLog.CONFLICT);
        x.commitErase(3, 7);
        x.commit(1).is(MeldLog.CONFLICT);

        x.begin(0);
        x.read(0, 5);
        x.begin(1);
        x.read(1, 7);
        x.commitErase(3, 5);
        x.commitWrite(3, 5, 50);
        x.commitWrite(3, 7, 70);
        x.commitErase(3, 7);
        x.commit(0).is(MeldLog.CONFLICT);
        x.commit(1).is(MeldLog.CONFLICT);

        x.begin(0);
        x.read(0, 8);
        x.begin(3);
        x.write(3, 8, 80);
        x.erase(3, 8);
        x.commit(3).is(8);
        x.commit(0).is(MeldLog.CONFLICT);
    }

    /** "some key that it has read": a changed key that was written, erased or peeked at alone does not conflict. */
    private static void noConflictWithoutARead() {
        Log x = new Log("P8 without a read there is no CONFLICT");
        x.commitAllKeys(0);
        x.begin(0);
        x.write(0, 5, 1);
        x.erase(0, 6);
        x.peek(0, 7);
        x.commitAllKeys(1);
        x.commit(0).is(13);
    }

    /** "some key that it has read is changed": with all others changed, there is no conflict. */
    private static void noConflictWithoutAChange() {
        for (int key = 0; key < 32; key++) {
            Log x = new Log("P8 without a change of what it has read there is no CONFLICT");
            x.begin(0);
            x.read(0, key);
            x.countRange(0, key, key);
            for (int each = 0; each < 32; each++) {
                if (each != key) {
                    x.commitWrite(1, each, 1);
                }
            }
            x.commit(0).is(32);
        }
    }

    /** "changed between its base and the latest state": what the transaction itself has written is in no state yet. */
    private static void ownWritesAreNoConflict() {
        Log x = new Log("P8 its own writes are no CONFLICT");
        x.begin(0);
        x.countRange(0, 0, 31);
        x.write(0, 3, 1);
        x.erase(0, 4);
        x.read(0, 3);
        x.commit(0).is(1);
        x.begin(0);
        x.countRange(0, 0, 31);
        x.write(0, 3, 2);
        x.commit(0).is(2);
    }

    /** "some commit that made one of the states": an aborted one and one in conflict made none. */
    private static void abortedAndRefusedWritesAreNoChange() {
        Log x = new Log("P8 writes that made no state are no change");
        x.beginAll();
        x.read(0, 1);
        x.read(0, 2);
        x.write(1, 1, 1);
        x.write(2, 2, 1);
        x.read(2, 9);
        x.write(3, 9, 1);
        x.abort(1).is(1);
        x.commit(3).is(1);
        x.commit(2).is(MeldLog.CONFLICT);
        x.begin(1);
        x.write(1, 1, 1);
        x.commit(0).is(2);
    }

    /** "CONFLICT, and no state is made" */
    private static void conflictMakesNoState() {
        Log x = new Log("P8 a CONFLICT makes no state");
        x.commitWrite(0, 5, 50);
        x.begin(0);
        x.read(0, 5);
        x.write(0, 6, 60);
        x.erase(0, 5);
        x.commitWrite(1, 5, 51);
        x.commit(0).is(MeldLog.CONFLICT);
        x.latest().is(2);
        x.size(3).is(MeldLog.BAD);
        x.at(2, 5).is(51);
        x.has(2, 6).is(false);
        x.size(2).is(1);
        x.changed(1, 2).is(1);
        x.begin(1).is(2);
        x.commit(1).is(3);
        x.has(3, 6).is(false);
    }

    /** "the transaction is closed all the same" */
    private static void conflictClosesAllTheSame() {
        for (int t = 0; t < 4; t++) {
            String sentence = "P8 a CONFLICT closes the transaction all the same";
            for (int look = 0; look < 4; look++) {
                Log x = new Log(sentence);
                x.beginAll();
                x.read(t, 5);
                x.write((t + 1) % 4, 5, 1);
                x.commit((t + 1) % 4).is(1);
                x.commit(t).is(MeldLog.CONFLICT);
                switch (look) {
                    case 0: x.commit(t).is(MeldLog.CLOSED); break;
                    case 1: x.abort(t).is(MeldLog.CLOSED); break;
                    case 2: x.begin(t).is(1); break;
                    default: x.read(t, 5).is(MeldLog.CLOSED); break;
                }
                x.begin((t + 2) % 4).is(MeldLog.OPEN);
                x.begin((t + 3) % 4).is(MeldLog.OPEN);
            }
        }
    }

    /** "If some key that it has read is changed": also if it has written nothing. */
    private static void conflictOfReadsAlone() {
        Log x = new Log("P8 one that has read alone can conflict");
        x.begin(0);
        x.begin(1);
        x.read(0, 5);
        x.read(1, 6);
        x.commitWrite(2, 5, 1);
        x.commit(0).is(MeldLog.CONFLICT);
        x.commit(1).is(2);
    }

    /** "Else the next state is the latest one with the transaction's writes and erasures": not the base with them. */
    private static void nextStateIsTheLatestWithTheChanges() {
        Log x = new Log("P8 the next state is the latest one with the changes");
        x.commitWrite(0, 1, 10);
        x.commitWrite(0, 2, 20);
        x.commitWrite(0, 3, 30);
        x.begin(0);
        x.write(0, 4, 40);
        x.erase(0, 3);
        x.commitWrite(1, 1, 11);
        x.commitErase(1, 2);
        x.commitWrite(1, 5, 50);
        x.commit(0).is(7);
        x.at(7, 1).is(11);
        x.has(7, 2).is(false);
        x.has(7, 3).is(false);
        x.at(7, 4).is(40);
        x.at(7, 5).is(50);
        x.size(7).is(3);
        x.at(6, 3).is(30);
        x.has(6, 4).is(false);
        x.size(6).is(3);
    }

    /** "with the transaction's writes and erasures": over what the latest state has for the same keys. */
    private static void laterCommitWins() {
        Log x = new Log("P8 the later commit's writes and erasures stand");
        x.commitWrite(0, 1, 10);
        x.beginAll();
        x.write(0, 1, 11);
        x.write(1, 1, 12);
        x.erase(2, 1);
        x.write(3, 1, 0);
        x.commit(0).is(2);
        x.commit(1).is(3);
        x.commit(2).is(4);
        x.commit(3).is(5);
        x.at(2, 1).is(11);
        x.at(3, 1).is(12);
        x.has(4, 1).is(false);
        x.at(4, 1).is(0);
        x.has(5, 1).is(true);
        x.at(5, 1).is(0);
    }

    /** "with the transaction's writes and erasures": with as many as there may be. */
    private static void nextStateTakesAllSixKeys() {
        Log x = new Log("P8 the next state has all six keys");
        x.commitAllKeys(0);
        x.begin(0);
        int[] keys = {0, 7, 15, 16, 30, 31};
        for (int i = 0; i < 6; i++) {
            if (i % 2 == 0) {
                x.erase(0, keys[i]);
            } else {
                x.write(0, keys[i], i);
            }
        }
        x.commit(0).is(7);
        x.size(7).is(29);
        x.changed(6, 7).is(6);
        for (int i = 0; i < 6; i++) {
            x.has(7, keys[i]).is(i % 2 != 0);
            x.at(7, keys[i]).is(i % 2 == 0 ? 0 : i);
            x.at(6, keys[i]).is(100 + keys[i]);
        }
    }

    /** "with the transaction's writes and erasures": whichever key it is, and no other key. */
    private static void nextStateTakesEachKey() {
        for (int key = 0; key < 32; key++) {
            Log x = new Log("P8 the next state has that key, and the others as they were");
            x.commitAllKeys(0);
            x.commitWrite(1, key, 7);
            x.commitErase(2, key);
            for (int each = 0; each < 32; each++) {
                x.at(6, each).is(100 + each);
                x.at(7, each).is(each == key ? 7 : 100 + each);
                x.at(8, each).is(each == key ? 0 : 100 + each);
                x.has(8, each).is(each != key);
            }
            x.size(8).is(31);
        }
    }

    /** "also if it has none" */
    private static void commitOfNothingMakesAState() {
        Log x = new Log("P8 a commit of nothing makes a state");
        x.begin(0);
        x.commit(0).is(1);
        x.latest().is(1);
        x.size(1).is(0);
        x.commitWrite(0, 5, 50);
        x.begin(0);
        x.read(0, 5);
        x.commit(0).is(3);
        x.latest().is(3);
        x.at(3, 5).is(50);
        x.size(3).is(1);
        x.changed(2, 3).is(0);
        x.size(4).is(MeldLog.BAD);
    }

    /** "its number is answered": one after the other, conflicts and aborts take none. */
    private static void answersTheNextNumber() {
        Log x = new Log("P8 commit answers the next number");
        for (int state = 1; state <= 50; state++) {
            x.begin(0);
            x.read(0, 5);
            x.begin(1);
            x.begin(2);
            x.write(1, 5, state);
            x.commit(1).is(state);
            x.commit(0).is(MeldLog.CONFLICT);
            x.abort(2).is(0);
        }
        x.latest().is(50);
    }
}
