import java.util.ArrayList;
import java.util.List;
import java.util.function.BiConsumer;
import java.util.function.Consumer;

/**
 * Whether two objects, led to a point by different calls, can be told apart by what comes after it. Looking at a
 * transaction changes it, so that each look gets a fresh pair of objects.
 */
final class Twins {
    private Twins() {
    }

    static void areAlike(String sentence, Consumer<Log> one, Consumer<Log> other) {
        compare(sentence, one, other, Twins::lookAtWhatStatesHave);
        compare(sentence, one, other, Twins::lookAtWhatStatesHold);
        compare(sentence, one, other, Twins::lookAtSizesAndChanges);
        compare(sentence, one, other, Twins::lookAtViews);
        for (int transaction = 0; transaction < 4; transaction++) {
            int t = transaction;
            compare(sentence, one, other, (x, seen) -> lookAtTransaction(x, seen, t));
            for (int each = 0; each < 32; each++) {
                int key = each;
                compare(sentence, one, other, (x, seen) -> lookAtRoomFor(x, seen, t, key));
                compare(sentence, one, other, (x, seen) -> lookAtReadingOf(x, seen, t, key));
                compare(sentence, one, other, (x, seen) -> lookAtChangeOf(x, seen, t, key));
            }
        }
    }

    private static void compare(String sentence, Consumer<Log> one, Consumer<Log> other,
            BiConsumer<Log, List<Log.Answer>> look) {
        List<Log.Answer> seen = answers(sentence, one, look);
        List<Log.Answer> due = answers(sentence, other, look);
        Checks.due(sentence + ": the calls looked at", seen.size(), due.size());
        for (int i = 0; i < Math.min(seen.size(), due.size()); i++) {
            seen.get(i).is(due.get(i).got);
        }
    }

    private static List<Log.Answer> answers(String sentence, Consumer<Log> way,
            BiConsumer<Log, List<Log.Answer>> look) {
        Log x = new Log(sentence);
        way.accept(x);
        List<Log.Answer> seen = new ArrayList<>();
        look.accept(x, seen);
        return seen;
    }

    private static int latest(Log x, List<Log.Answer> seen) {
        Log.Answer latest = x.latest();
        seen.add(latest);
        return latest.got;
    }

    private static void lookAtWhatStatesHave(Log x, List<Log.Answer> seen) {
        int latest = latest(x, seen);
        for (int state = latest - 6; state <= latest + 1; state++) {
            for (int key = 0; key < 32; key++) {
                seen.add(x.has(state, key));
            }
        }
    }

    private static void lookAtWhatStatesHold(Log x, List<Log.Answer> seen) {
        int latest = latest(x, seen);
        for (int state = latest - 6; state <= latest + 1; state++) {
            for (int key = 0; key < 32; key++) {
                seen.add(x.at(state, key));
            }
        }
    }

    private static void lookAtSizesAndChanges(Log x, List<Log.Answer> seen) {
        int latest = latest(x, seen);
        for (int state = latest - 7; state <= latest + 1; state++) {
            seen.add(x.size(state));
            for (int other = latest - 7; other <= latest + 1; other++) {
                seen.add(x.changed(state, other));
            }
        }
    }

    private static void lookAtViews(Log x, List<Log.Answer> seen) {
        for (int t = 0; t < 4; t++) {
            for (int key = 0; key < 32; key++) {
                seen.add(x.peek(t, key));
            }
            seen.add(x.countRange(t, 0, 31));
        }
    }

    /** Looks also at the one that is begun in its place: what a refused call left there would come to light. */
    private static void lookAtTransaction(Log x, List<Log.Answer> seen, int t) {
        for (int key = 0; key < 32; key++) {
            seen.add(x.read(t, key));
        }
        seen.add(x.abort(t));
        seen.add(x.begin(t));
        for (int key = 0; key < 32; key++) {
            seen.add(x.peek(t, key));
        }
        seen.add(x.abort(t));
    }

    private static void lookAtRoomFor(Log x, List<Log.Answer> seen, int t, int key) {
        seen.add(x.write(t, key, 77));
        seen.add(x.erase(t, key));
        seen.add(x.abort(t));
    }

    /** Has another transaction change the key; whether t conflicts then tells whether t has read it. */
    private static void lookAtReadingOf(Log x, List<Log.Answer> seen, int t, int key) {
        int other = (t + 1) % 4;
        seen.add(x.abort(other));
        seen.add(x.begin(other));
        seen.add(x.write(other, key, 77));
        seen.add(x.commit(other));
        seen.add(x.commit(t));
        int latest = latest(x, seen);
        seen.add(x.changed(latest - 1, latest));
        for (int each = 0; each < 32; each++) {
            seen.add(x.has(latest, each));
            seen.add(x.at(latest, each));
        }
        seen.add(x.begin(t));
    }

    /** Has t read the key only now; whether it conflicts tells whether the key was changed since its base. */
    private static void lookAtChangeOf(Log x, List<Log.Answer> seen, int t, int key) {
        seen.add(x.read(t, key));
        seen.add(x.commit(t));
        latest(x, seen);
    }
}
