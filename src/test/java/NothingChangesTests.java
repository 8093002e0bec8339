import java.util.ArrayList;
import java.util.LinkedHashMap;
import java.util.List;
import java.util.Map;

/**
 * "No question changes anything. A refused call changes nothing." In several states, for every
 * method that can refuse and for every question: all questions are asked before such a call and
 * after it, on the same object, and the answers have to be the same; and what no question tells,
 * the draft and the threshold, is brought to light by calls that change things, on one object
 * with such a call and on one without it.
 */
public final class NothingChangesTests {
    private static final int LOW = Numbers.LOW;
    private static final int HIGH = Numbers.HIGH;

    /** A run of calls on a new object, and what is known of the object after it. */
    private record State(String name, List<Call> calls, int records, int[] draft) {
    }

    /** Calls to make on a new object, as they are told one by one. */
    private static final class Script {
        final List<Call> calls = new ArrayList<>();

        Script then(String method, int... arguments) {
            calls.add(new Call(method, arguments));
            return this;
        }

        Script draft(int... tokens) {
            then("clear");
            for (int token : tokens) {
                then("token", token);
            }
            return this;
        }

        Script record(int... tokens) {
            return draft(tokens).then("store");
        }

        /** Twenty records of 2 to 4 tokens, some similar to others at 2 / 5 and some not. */
        Script twentyRecords() {
            for (int r = 0; r < 20; r++) {
                int[] tokens = {r, r / 2, 20 + r % 10, 29 - r % 3};
                record(tokens);
            }
            return then("threshold", 2, 5);
        }
    }

    private static List<State> states() {
        int[] twelve = Numbers.TWELVES[2];
        int[] eleven = java.util.Arrays.copyOf(twelve, 11);
        Script chain = new Script().record(0, 1).record(1, 2).record(9).record(2, 3).record(0, 1).then("threshold", 1, 3);
        return List.of(
            new State("a new object", new Script().calls, 0, Numbers.set()),
            new State("a draft of one token and no record",
                new Script().then("token", 29).calls, 0, Numbers.set(29)),
            new State("a full draft and no record",
                new Script().then("threshold", 5, 7).draft(twelve).calls, 0, twelve),
            new State("one record and the same draft",
                new Script().record(3, 4).calls, 1, Numbers.set(3, 4)),
            new State("one record of 12 tokens and an empty draft",
                new Script().record(twelve).then("clear").then("threshold", 12, 12).calls, 1, Numbers.set()),
            new State("five records, some of them a chain, and a draft of two tokens",
                chain.draft(0, 2).calls, 5, Numbers.set(0, 2)),
            new State("19 records, one was removed, and a draft of 11 tokens",
                new Script().twentyRecords().then("remove", 6).draft(eleven).calls, 19, eleven),
            new State("20 records and a full draft",
                new Script().twentyRecords().draft(twelve).calls, 20, twelve),
            new State("20 records and an empty draft",
                new Script().twentyRecords().then("clear").calls, 20, Numbers.set()));
    }

    /** Every question that is not refused, beside those of partner and match that find nothing. */
    private static List<Call> questions(State state) {
        Script all = new Script();
        all.then("records").then("pairs").then("matches").then("containing").then("groups");
        for (int token = 0; token < 30; token++) {
            all.then("frequency", token);
        }
        for (int from = 0; from < 20; from++) {
            all.then("match", from);
        }
        for (int a = 0; a < state.records; a++) {
            all.then("size", a).then("degree", a).then("nearest", a).then("groupOf", a).then("groupSize", a);
            for (int token = 0; token < 30; token++) {
                all.then("has", a, token);
            }
            for (int b = 0; b < state.records; b++) {
                all.then("common", a, b).then("similar", a, b).then("partner", a, b);
            }
        }
        // A record that should not be there would answer to the next number.
        all.then("size", state.records);
        return all.calls;
    }

    /** Fewer questions, yet each method, and the first and the last record and token. */
    private static List<Call> someQuestions(State state) {
        Script some = new Script();
        some.then("records").then("pairs").then("matches").then("containing").then("groups");
        some.then("frequency", 0).then("frequency", 29).then("match", 0).then("match", 19);
        if (state.records > 0) {
            int last = state.records - 1;
            for (int which : new int[] {0, last / 2, last}) {
                some.then("size", which).then("degree", which).then("nearest", which);
                some.then("groupOf", which).then("groupSize", which);
                some.then("has", which, 0).then("has", which, 29);
                some.then("common", which, last).then("common", 0, which);
                some.then("similar", which, last).then("similar", 0, which);
                some.then("partner", which, 0).then("partner", which, last);
            }
        }
        return some.calls;
    }

    private static Map<Call, Integer> refusedChanges(State state) {
        Map<Call, Integer> refused = new LinkedHashMap<>();
        for (int token : Numbers.outside(0, 29)) {
            refused.put(new Call("token", token), -1);
            refused.put(new Call("drop", token), -1);
        }
        if (state.draft.length == 12) {
            for (int token : Numbers.others(state.draft)) {
                refused.put(new Call("token", token), -2);
            }
        }
        for (int which : Numbers.outside(0, state.records - 1)) {
            refused.put(new Call("recall", which), -1);
            refused.put(new Call("remove", which), -1);
        }
        if (state.draft.length == 0) {
            refused.put(new Call("store"), -1);
        } else if (state.records == 20) {
            refused.put(new Call("store"), -2);
        }
        int[] parts = {LOW, -1, 0, 1, 5, 6, 12, 13, HIGH};
        for (int t : parts) {
            for (int u : parts) {
                boolean outside = t < 1 || t > 12 || u < 1 || u > 12;
                if (outside || t > u) {
                    refused.put(new Call("threshold", t, u), outside ? -1 : -2);
                }
            }
        }
        return refused;
    }

    private static Map<Call, Integer> refusedQuestions(State state) {
        Map<Call, Integer> refused = new LinkedHashMap<>();
        int last = state.records - 1;
        for (int bad : Numbers.fewOutside(0, last)) {
            for (String method : new String[] {"size", "degree", "nearest", "groupOf", "groupSize"}) {
                refused.put(new Call(method, bad), -1);
            }
            for (int second : new int[] {LOW, -1, 0, last, 30, HIGH}) {
                refused.put(new Call("has", bad, second), -1);
                refused.put(new Call("common", bad, second), -1);
                refused.put(new Call("common", second, bad), -1);
                refused.put(new Call("similar", bad, second), -1);
                refused.put(new Call("similar", second, bad), -1);
                refused.put(new Call("partner", bad, second), -1);
            }
        }
        for (int token : Numbers.fewOutside(0, 29)) {
            refused.put(new Call("frequency", token), -1);
        }
        for (int from : Numbers.fewOutside(0, 19)) {
            refused.put(new Call("match", from), -1);
        }
        for (int which = 0; which < state.records; which++) {
            for (int token : Numbers.fewOutside(0, 29)) {
                refused.put(new Call("has", which, token), -2);
            }
            for (int i : new int[] {LOW, -1, last, HIGH}) {
                refused.put(new Call("partner", which, i), -2);
            }
        }
        if (state.records == 1) {
            refused.put(new Call("nearest", 0), -2);
        }
        return refused;
    }

    /** Calls whose answers together tell how many records there are, the draft and the threshold. */
    private static List<Call> callsThatTellTheRest() {
        Script tail = new Script();
        for (int r = 0; r < 20; r++) {
            tail.then("remove", 0);
        }
        tail.then("store");
        for (int token = 0; token < 30; token++) {
            tail.then("has", 0, token);
        }
        // A record of 1 to 12 tokens, and a draft that has fewer and fewer of them: for every
        // threshold there may be, the draft stops being similar at another place.
        for (int size = 1; size <= 12; size++) {
            tail.then("clear").then("remove", 0);
            for (int token = 0; token < size; token++) {
                tail.then("token", token);
            }
            tail.then("store");
            for (int token = 0; token < size; token++) {
                tail.then("matches").then("drop", token);
            }
        }
        return tail.calls;
    }

    private static Run reached(State state) {
        Run run = new Run();
        run.callAll(state.calls);
        return run;
    }

    private static List<Integer> answers(Run run, List<Call> calls) {
        List<Integer> found = new ArrayList<>();
        for (Call call : calls) {
            found.add(run.call(call));
        }
        return found;
    }

    private static void dueSame(String when, List<Call> calls, List<Integer> got, List<Integer> want) {
        for (int i = 0; i < calls.size(); i++) {
            Due.same(when + ", " + calls.get(i), got.get(i), want.get(i));
        }
    }

    /** No more questions at a time than can be asked twice on one object. */
    private static List<List<Call>> portions(State state, List<Call> questions) {
        int most = (Run.MOST_CALLS - state.calls.size() - 1) / 2;
        List<List<Call>> found = new ArrayList<>();
        for (int i = 0; i < questions.size(); i += most) {
            found.add(questions.subList(i, Math.min(questions.size(), i + most)));
        }
        return found;
    }

    private static final List<Call> THE_REST = callsThatTellTheRest();

    private static void dueNoChange(State state, Call call) {
        String when = state.name + ": after " + call;
        for (List<Call> portion : portions(state, questions(state))) {
            Run run = reached(state);
            List<Integer> before = answers(run, portion);
            run.call(call);
            dueSame(when, portion, answers(run, portion), before);
        }
        Run without = reached(state);
        Run with = reached(state);
        with.call(call);
        dueSame(when, THE_REST, answers(with, THE_REST), answers(without, THE_REST));
    }

    private static void dueRefused(State state, Map<Call, Integer> refused) {
        refused.forEach((call, answer) -> {
            Due.same(state.name + ": " + call, reached(state).call(call), answer);
            dueNoChange(state, call);
        });
    }

    /** All of them, one after the other on one object, as far as its calls reach. */
    private static void dueNoChangeByAll(State state, List<Call> all) {
        int most = Run.MOST_CALLS - state.calls.size() - THE_REST.size();
        for (int i = 0; i < all.size(); i += most) {
            Run without = reached(state);
            Run with = reached(state);
            with.callAll(all.subList(i, Math.min(all.size(), i + most)));
            dueSame(state.name + ": after many calls", THE_REST, answers(with, THE_REST), answers(without, THE_REST));
        }
    }

    public static void main(String[] args) {
        for (State state : states()) {
            Due.sentence("Terms: a refused call changes nothing (" + state.name + ")",
                () -> dueRefused(state, refusedChanges(state)));
            Due.sentence("Terms: a refused call changes nothing, a question (" + state.name + ")",
                () -> dueRefused(state, refusedQuestions(state)));
            Due.sentence("Terms: no question changes anything (" + state.name + ")",
                () -> someQuestions(state).forEach(question -> dueNoChange(state, question)));
            Due.sentence("Terms: no question and no refused call changes anything, however many (" + state.name + ")",
                () -> {
                    dueNoChangeByAll(state, questions(state));
                    dueNoChangeByAll(state, new ArrayList<>(refusedChanges(state).keySet()));
                });
        }
        Due.end();
    }
}
