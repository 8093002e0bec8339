import java.util.Arrays;
import java.util.stream.IntStream;

/**
 * Each call that is not refused changes what its promise says, and nothing else: after it all
 * records, the draft and the threshold are looked at.
 */
public final class ChangesTests {
    /** All there is to know of an object. */
    private record State(int[][] records, int[] draft, int t, int u) {
        State withRecords(int[]... others) {
            return new State(others, draft, t, u);
        }

        State withDraft(int... other) {
            return new State(records, other, t, u);
        }

        State withThreshold(int otherT, int otherU) {
            return new State(records, draft, otherT, otherU);
        }

        Run reached() {
            Run run = Run.with(records);
            run.draft(draft);
            run.call("threshold", t, u);
            return run;
        }
    }

    private static int[] set(int... tokens) {
        return tokens;
    }

    private static void dueRecords(State after, Run run) {
        run.due(after.records.length, "records");
        run.due(-1, "size", after.records.length);
        for (int r = 0; r < after.records.length; r++) {
            run.due(after.records[r].length, "size", r);
            for (int token : after.records[r]) {
                run.due(1, "has", r, token);
            }
        }
    }

    /** Records of 1 to 12 tokens, and a draft that has fewer and fewer of them: each threshold stops being met at another place. */
    private static void dueThreshold(State after, Run run) {
        for (int r = 0; r < after.records.length; r++) {
            run.call("remove", 0);
        }
        for (int inRecord = 1; inRecord <= 12; inRecord++) {
            run.record(Numbers.span(1, inRecord));
            for (int inDraft = inRecord; inDraft >= 1; inDraft--) {
                boolean similar = after.u * inDraft >= after.t * inRecord;
                run.due(similar ? 1 : 0, "matches");
                run.call("drop", inDraft);
            }
            run.call("remove", 0);
        }
    }

    private static void dueAfter(State before, State after, int answer, String method, int... arguments) {
        for (int look = 0; look < 3; look++) {
            Run run = before.reached();
            run.due(answer, method, arguments);
            switch (look) {
                case 0 -> dueRecords(after, run);
                case 1 -> run.dueDraft(after.draft);
                default -> dueThreshold(after, run);
            }
        }
    }

    private static final State NEW = new State(new int[0][], set(), 1, 2);
    private static final State SOME = new State(new int[][] {{1, 2, 3}, {2, 3, 4}, {29}}, set(2, 3), 2, 5);
    private static final State FULL = new State(
        IntStream.range(0, 20).mapToObj(r -> set(r, r + 5, 29)).toArray(int[][]::new), Numbers.TWELVES[2], 7, 9);

    private static int[] fullDraftWithout(int token) {
        return Arrays.stream(FULL.draft).filter(other -> other != token).toArray();
    }

    private static int[][] fullRecordsWithout(int which) {
        return IntStream.range(0, 20).filter(r -> r != which).mapToObj(r -> FULL.records[r]).toArray(int[][]::new);
    }

    private static void token() {
        dueAfter(NEW, NEW.withDraft(0), 1, "token", 0);
        dueAfter(SOME, SOME.withDraft(2, 3, 29), 3, "token", 29);
        dueAfter(SOME, SOME, 2, "token", 2);
        dueAfter(FULL, FULL, 12, "token", 29);
    }

    private static void drop() {
        dueAfter(NEW, NEW, 0, "drop", 0);
        dueAfter(SOME, SOME.withDraft(3), 1, "drop", 2);
        dueAfter(SOME, SOME, 2, "drop", 29);
        dueAfter(FULL, FULL.withDraft(fullDraftWithout(29)), 11, "drop", 29);
    }

    private static void clear() {
        dueAfter(NEW, NEW, 0, "clear");
        dueAfter(SOME, SOME.withDraft(), 2, "clear");
        dueAfter(FULL, FULL.withDraft(), 12, "clear");
    }

    private static void recall() {
        dueAfter(SOME, SOME.withDraft(1, 2, 3), 3, "recall", 0);
        dueAfter(SOME, SOME.withDraft(29), 1, "recall", 2);
        dueAfter(FULL, FULL.withDraft(19, 24, 29), 3, "recall", 19);
    }

    private static void store() {
        State first = NEW.withDraft(4);
        dueAfter(first, first.withRecords(set(4)), 0, "store");
        dueAfter(SOME, SOME.withRecords(set(1, 2, 3), set(2, 3, 4), set(29), set(2, 3)), 3, "store");
        State last = FULL.withRecords(fullRecordsWithout(19)).withDraft(19, 24, 29);
        dueAfter(last, FULL.withDraft(19, 24, 29), 19, "store");
    }

    private static void remove() {
        dueAfter(SOME, SOME.withRecords(set(2, 3, 4), set(29)), 2, "remove", 0);
        dueAfter(SOME, SOME.withRecords(set(1, 2, 3), set(29)), 2, "remove", 1);
        dueAfter(SOME, SOME.withRecords(set(1, 2, 3), set(2, 3, 4)), 2, "remove", 2);
        for (int which = 0; which < 20; which++) {
            dueAfter(FULL, FULL.withRecords(fullRecordsWithout(which)), 19, "remove", which);
        }
        State one = SOME.withRecords(set(2, 3));
        dueAfter(one, one.withRecords(), 0, "remove", 0);
    }

    private static void threshold() {
        for (int u = 1; u <= 12; u++) {
            for (int t = 1; t <= u; t++) {
                dueAfter(NEW, NEW.withThreshold(t, u), 0, "threshold", t, u);
                dueAfter(SOME, SOME.withThreshold(t, u), 0, "threshold", t, u);
                dueAfter(FULL, FULL.withThreshold(t, u), 0, "threshold", t, u);
            }
        }
    }

    public static void main(String[] args) {
        Due.sentence("Promise 2: puts a token into the draft, and changes nothing else", ChangesTests::token);
        Due.sentence("Promise 3: takes a token out of the draft, and changes nothing else", ChangesTests::drop);
        Due.sentence("Promise 4: the draft becomes empty, and nothing else changes", ChangesTests::clear);
        Due.sentence("Promise 5: the draft becomes the same set as a record, and nothing else changes", ChangesTests::recall);
        Due.sentence("Promise 6: stores the draft at the end, and changes nothing else", ChangesTests::store);
        Due.sentence("Promise 7: takes a record out, and changes nothing else", ChangesTests::remove);
        Due.sentence("Promise 8: sets the threshold, and changes nothing else", ChangesTests::threshold);
        Due.end();
    }
}
