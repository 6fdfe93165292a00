import java.util.ArrayList;
import java.util.HashMap;
import java.util.HashSet;
import java.util.List;
import java.util.Map;
import java.util.Set;

/** The document told again in the plainest way: every state is kept in full, nothing is reused. */
final class Model {
    private static final int BAD = -1;
    private static final int OPEN = -2;
    private static final int CLOSED = -3;
    private static final int FULL = -4;
    private static final int CONFLICT = -5;
    private static final int GONE = -6;

    private static final class State {
        final Map<Integer, Integer> values = new HashMap<>();
        final Set<Integer> writtenOrErased = new HashSet<>();
    }

    private static final class Transaction {
        int base;
        final Map<Integer, Integer> writes = new HashMap<>();
        final Set<Integer> erasures = new HashSet<>();
        final Set<Integer> reads = new HashSet<>();

        int size() {
            return writes.size() + erasures.size();
        }
    }

    private final List<State> states = new ArrayList<>();
    private final Transaction[] open = new Transaction[4];

    Model() {
        states.add(new State());
    }

    private static boolean isTransaction(int t) {
        return 0 <= t && t <= 3;
    }

    private static boolean isKey(int key) {
        return 0 <= key && key <= 31;
    }

    private boolean isThere(int state) {
        return 0 <= state && state < states.size();
    }

    private boolean isKept(int state) {
        return isThere(state) && states.size() - state <= 6;
    }

    private Map<Integer, Integer> view(int t) {
        Map<Integer, Integer> view = new HashMap<>(states.get(open[t].base).values);
        view.putAll(open[t].writes);
        view.keySet().removeAll(open[t].erasures);
        return view;
    }

    private Set<Integer> changedKeys(int s, int t) {
        Set<Integer> keys = new HashSet<>();
        for (State state : states.subList(s + 1, t + 1)) {
            keys.addAll(state.writtenOrErased);
        }
        return keys;
    }

    int begin(int t) {
        if (!isTransaction(t)) return BAD;
        if (open[t] != null) return OPEN;
        open[t] = new Transaction();
        open[t].base = latest();
        return latest();
    }

    private int refuseChange(int t, int key) {
        if (!isTransaction(t) || !isKey(key)) return BAD;
        if (open[t] == null) return CLOSED;
        Set<Integer> others = new HashSet<>(open[t].writes.keySet());
        others.addAll(open[t].erasures);
        others.remove(key);
        return others.size() == 6 ? FULL : 0;
    }

    int write(int t, int key, int value) {
        int refusal = refuseChange(t, key);
        if (refusal != 0) return refusal;
        open[t].erasures.remove(key);
        open[t].writes.put(key, value);
        return open[t].size();
    }

    int erase(int t, int key) {
        int refusal = refuseChange(t, key);
        if (refusal != 0) return refusal;
        open[t].writes.remove(key);
        open[t].erasures.add(key);
        return open[t].size();
    }

    int read(int t, int key) {
        if (!isTransaction(t) || !isKey(key)) return BAD;
        if (open[t] == null) return CLOSED;
        open[t].reads.add(key);
        return view(t).containsKey(key) ? 1 : 0;
    }

    int peek(int t, int key) {
        if (!isTransaction(t) || !isKey(key) || open[t] == null) return 0;
        return view(t).getOrDefault(key, 0);
    }

    int countRange(int t, int low, int high) {
        if (!isTransaction(t) || !isKey(low) || !isKey(high) || low > high) return BAD;
        if (open[t] == null) return CLOSED;
        int count = 0;
        for (int key = low; key <= high; key++) {
            open[t].reads.add(key);
            count += view(t).containsKey(key) ? 1 : 0;
        }
        return count;
    }

    int commit(int t) {
        if (!isTransaction(t)) return BAD;
        if (open[t] == null) return CLOSED;
        Transaction own = open[t];
        open[t] = null;
        Set<Integer> conflicts = changedKeys(own.base, latest());
        conflicts.retainAll(own.reads);
        if (!conflicts.isEmpty()) return CONFLICT;
        State next = new State();
        next.values.putAll(states.get(latest()).values);
        next.values.putAll(own.writes);
        next.values.keySet().removeAll(own.erasures);
        next.writtenOrErased.addAll(own.writes.keySet());
        next.writtenOrErased.addAll(own.erasures);
        states.add(next);
        return latest();
    }

    int abort(int t) {
        if (!isTransaction(t)) return BAD;
        if (open[t] == null) return CLOSED;
        int size = open[t].size();
        open[t] = null;
        return size;
    }

    int latest() {
        return states.size() - 1;
    }

    int has(int state, int key) {
        return isKept(state) && states.get(state).values.containsKey(key) ? 1 : 0;
    }

    int at(int state, int key) {
        return isKept(state) ? states.get(state).values.getOrDefault(key, 0) : 0;
    }

    int size(int state) {
        if (!isThere(state)) return BAD;
        return isKept(state) ? states.get(state).values.size() : GONE;
    }

    int changed(int s, int t) {
        if (!isThere(s) || !isThere(t) || s >= t) return BAD;
        return isKept(s) && isKept(t) ? changedKeys(s, t).size() : GONE;
    }
}
