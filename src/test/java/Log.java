import java.util.Arrays;
import java.util.stream.Collectors;

/** A MeldLog under test: it knows the sentence that it is to hold to, and counts its calls. */
final class Log {
    static final int MOST_CALLS = 512;

    private final String sentence;
    private final MeldLog log = new MeldLog();
    private int calls = 0;

    Log(String sentence) {
        this.sentence = sentence;
    }

    /** What a call answered; true is 1 and false is 0. */
    final class Answer {
        private final int number;
        private final String name;
        private final int[] arguments;
        final int got;

        private Answer(int got, String name, int... arguments) {
            calls++;
            // Later answers are free, so a test that looks at one tests nothing.
            Checks.holds("at most " + MOST_CALLS + " calls in a test of: " + sentence, calls <= MOST_CALLS);
            this.number = calls;
            this.name = name;
            this.arguments = arguments;
            this.got = got;
        }

        void is(int due) {
            if (got != due) {
                Checks.due(sentence + ": " + this, got, due);
            }
        }

        void is(boolean due) {
            is(due ? 1 : 0);
        }

        void isNot(int refusal) {
            Checks.holds(sentence + ": " + this + " is not " + refusal, got != refusal);
        }

        @Override
        public String toString() {
            return "call " + number + ", " + name + Arrays.stream(arguments)
                .mapToObj(Integer::toString).collect(Collectors.joining(", ", "(", ")"));
        }
    }

    int calls() {
        return calls;
    }

    Answer begin(int t) {
        return new Answer(log.begin(t), "begin", t);
    }

    Answer write(int t, int key, int value) {
        return new Answer(log.write(t, key, value), "write", t, key, value);
    }

    Answer erase(int t, int key) {
        return new Answer(log.erase(t, key), "erase", t, key);
    }

    Answer read(int t, int key) {
        return new Answer(log.read(t, key), "read", t, key);
    }

    Answer peek(int t, int key) {
        return new Answer(log.peek(t, key), "peek", t, key);
    }

    Answer countRange(int t, int low, int high) {
        return new Answer(log.countRange(t, low, high), "countRange", t, low, high);
    }

    Answer commit(int t) {
        return new Answer(log.commit(t), "commit", t);
    }

    Answer abort(int t) {
        return new Answer(log.abort(t), "abort", t);
    }

    Answer latest() {
        return new Answer(log.latest(), "latest");
    }

    Answer has(int state, int key) {
        return new Answer(log.has(state, key) ? 1 : 0, "has", state, key);
    }

    Answer at(int state, int key) {
        return new Answer(log.at(state, key), "at", state, key);
    }

    Answer size(int state) {
        return new Answer(log.size(state), "size", state);
    }

    Answer changed(int s, int t) {
        return new Answer(log.changed(s, t), "changed", s, t);
    }

    void beginAll() {
        for (int t = 0; t < 4; t++) {
            begin(t);
        }
    }

    /** Writes count keys, from first on, key n with the value 100 + n. */
    void writeKeys(int t, int first, int count) {
        for (int key = first; key < first + count; key++) {
            write(t, key, 100 + key);
        }
    }

    /** Makes the next state, in which one key is written; t is closed before and after. */
    void commitWrite(int t, int key, int value) {
        int base = begin(t).got;
        write(t, key, value).is(1);
        commit(t).is(base + 1);
    }

    void commitErase(int t, int key) {
        int base = begin(t).got;
        erase(t, key).is(1);
        commit(t).is(base + 1);
    }

    /** Makes count states, without a change in them. */
    void commitNothing(int t, int count) {
        for (int i = 0; i < count; i++) {
            int base = begin(t).got;
            commit(t).is(base + 1);
        }
    }

    /** Makes six states, the last of which has a value for every key: key n has 100 + n. */
    void commitAllKeys(int t) {
        for (int first = 0; first < 32; first += 6) {
            int base = begin(t).got;
            writeKeys(t, first, Math.min(6, 32 - first));
            commit(t).is(base + 1);
        }
    }

    /** Makes states 1 to last; state n gives key n % 32 the value 100 + n. */
    void commitStates(int t, int last) {
        for (int state = 1; state <= last; state++) {
            commitWrite(t, state % 32, 100 + state);
        }
    }
}
