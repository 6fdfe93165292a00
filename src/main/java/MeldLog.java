/**
 * Transactions over a shared tree of values, melded optimistically, with old states kept.
 *
 * A set of keys is an int, one bit a key. A key without a value has 0 in its cell of values, so that
 * at and peek answer the cell as it stands.
 */
public final class MeldLog {
    public static final int BAD = -1;
    public static final int OPEN = -2;
    public static final int CLOSED = -3;
    public static final int FULL = -4;
    public static final int CONFLICT = -5;
    public static final int GONE = -6;

    private static final int FINE = 0;
    private static final int KEYS = 32;
    private static final int TRANSACTIONS = 4;
    private static final int MOST_CHANGES = 6;
    private static final int KEPT = 6;
    // Not KEPT itself: with a power of two the low bits of any state's number, even of one that has
    // wrapped around, are a slot.
    private static final int SLOTS = 8;
    private static final int STATE_CELLS = SLOTS * KEYS;
    private static final int VIEW_CELLS = TRANSACTIONS * KEYS;

    private int newest = 0;
    private final int[] stateKeys = new int[SLOTS];
    private final int[] stateValues = new int[STATE_CELLS];
    private final int[] stateChanges = new int[SLOTS];
    // The state whose commit changed the key last. A base may be older than every kept state, so the
    // kept states' changes do not suffice to find a conflict.
    private final int[] lastChange = new int[KEYS];

    // A view is a copy made at begin, because the base may cease to be kept while it is still read.
    private final boolean[] opened = new boolean[TRANSACTIONS];
    private final int[] baseState = new int[TRANSACTIONS];
    private final int[] viewKeys = new int[TRANSACTIONS];
    private final int[] viewValues = new int[VIEW_CELLS];
    private final int[] ownChanges = new int[TRANSACTIONS];
    private final int[] readKeys = new int[TRANSACTIONS];

    public MeldLog() {
    }

    public int begin(int t) {
        if (!isTransaction(t)) {
            return BAD;
        }
        if (opened[t]) {
            return OPEN;
        }
        opened[t] = true;
        baseState[t] = newest;
        ownChanges[t] = 0;
        readKeys[t] = 0;
        copyNewestToView(t);
        return newest;
    }

    public int write(int t, int key, int value) {
        return change(t, key, 1, value);
    }

    public int erase(int t, int key) {
        return change(t, key, 0, 0);
    }

    public int read(int t, int key) {
        int refusal = refuseKey(t, key);
        if (refusal != FINE) {
            return refusal;
        }
        readKeys[t] |= 1 << key;
        return holds(viewKeys[t], key) ? 1 : 0;
    }

    public int peek(int t, int key) {
        return refuseKey(t, key) == FINE ? viewValues[t * KEYS + key] : 0;
    }

    public int countRange(int t, int low, int high) {
        if (!isKey(low) || !isKey(high) || low > high) {
            return BAD;
        }
        int refusal = refuseTransaction(t);
        if (refusal != FINE) {
            return refusal;
        }
        int range = keysBetween(low, high);
        readKeys[t] |= range;
        return countKeys(viewKeys[t] & range);
    }

    public int commit(int t) {
        int refusal = refuseTransaction(t);
        if (refusal != FINE) {
            return refusal;
        }
        opened[t] = false;
        if (hasReadChangedKey(t)) {
            return CONFLICT;
        }
        makeState(t);
        return newest;
    }

    public int abort(int t) {
        int refusal = refuseTransaction(t);
        if (refusal != FINE) {
            return refusal;
        }
        opened[t] = false;
        return countKeys(ownChanges[t]);
    }

    public int latest() {
        return newest;
    }

    public boolean has(int state, int key) {
        if (!isKept(state) || !isKey(key)) {
            return false;
        }
        int slot = slotOf(state);
        return holds(stateKeys[slot], key);
    }

    public int at(int state, int key) {
        if (!isKept(state) || !isKey(key)) {
            return 0;
        }
        return stateValues[slotOf(state) * KEYS + key];
    }

    public int size(int state) {
        if (!isState(state)) {
            return BAD;
        }
        if (!isKept(state)) {
            return GONE;
        }
        int slot = slotOf(state);
        return countKeys(stateKeys[slot]);
    }

    public int changed(int s, int t) {
        if (!isState(s) || !isState(t) || s >= t) {
            return BAD;
        }
        if (!isKept(s) || !isKept(t)) {
            return GONE;
        }
        int keys = 0;
        for (int state = s; state < t; state++) {
            keys |= stateChanges[slotOf(state + 1)];
        }
        return countKeys(keys);
    }

    private int refuseTransaction(int t) {
        if (!isTransaction(t)) {
            return BAD;
        }
        return opened[t] ? FINE : CLOSED;
    }

    private int refuseKey(int t, int key) {
        return isKey(key) ? refuseTransaction(t) : BAD;
    }

    private int refuseChange(int t, int key) {
        int refusal = refuseKey(t, key);
        if (refusal != FINE) {
            return refusal;
        }
        if (holds(ownChanges[t], key)) {
            return FINE;
        }
        return countKeys(ownChanges[t]) < MOST_CHANGES ? FINE : FULL;
    }

    /** present is 1 if the key has the value in the view then, 0 if it has none. */
    private int change(int t, int key, int present, int value) {
        int refusal = refuseChange(t, key);
        if (refusal != FINE) {
            return refusal;
        }
        viewKeys[t] = (viewKeys[t] & ~(1 << key)) | (present << key);
        viewValues[t * KEYS + key] = value;
        ownChanges[t] |= 1 << key;
        return countKeys(ownChanges[t]);
    }

    private boolean hasReadChangedKey(int t) {
        for (int key = 0; key < KEYS; key++) {
            if (holds(readKeys[t], key) && lastChange[key] > baseState[t]) {
                return true;
            }
        }
        return false;
    }

    private void copyNewestToView(int t) {
        int slot = slotOf(newest);
        viewKeys[t] = stateKeys[slot];
        for (int key = 0; key < KEYS; key++) {
            viewValues[t * KEYS + key] = stateValues[slot * KEYS + key];
        }
    }

    private void makeState(int t) {
        int own = ownChanges[t];
        int from = slotOf(newest);
        newest++;
        int to = slotOf(newest);
        stateKeys[to] = (stateKeys[from] & ~own) | (viewKeys[t] & own);
        stateChanges[to] = own;
        for (int key = 0; key < KEYS; key++) {
            if (holds(own, key)) {
                stateValues[to * KEYS + key] = viewValues[t * KEYS + key];
                lastChange[key] = newest;
            } else {
                stateValues[to * KEYS + key] = stateValues[from * KEYS + key];
            }
        }
    }

    private boolean isState(int state) {
        return state >= 0 && state <= newest;
    }

    private boolean isKept(int state) {
        return isState(state) && state > newest - KEPT;
    }

    private static boolean isTransaction(int t) {
        return t >= 0 && t < TRANSACTIONS;
    }

    private static boolean isKey(int key) {
        return key >= 0 && key < KEYS;
    }

    private static int slotOf(int state) {
        return state & (SLOTS - 1);
    }

    private static boolean holds(int keys, int key) {
        return (keys >>> key & 1) != 0;
    }

    private static int keysBetween(int low, int high) {
        int keys = 0;
        for (int key = low; key <= high; key++) {
            keys |= 1 << key;
        }
        return keys;
    }

    private static int countKeys(int keys) {
        int count = 0;
        for (int key = 0; key < KEYS; key++) {
            count += keys >>> key & 1;
        }
        return count;
    }
}
