import java.util.List;

/** A new object and the calls made on it, which are counted: nothing is promised after the 512th. */
final class Run {
    static final int MOST_CALLS = 512;

    private final SimilarityJoin join = new SimilarityJoin();
    private int calls = 0;

    /** A new object with these records, in this order, and an empty draft. */
    static Run with(int[]... records) {
        Run run = new Run();
        for (int[] record : records) {
            run.record(record);
        }
        run.call("clear");
        return run;
    }

    int calls() {
        return calls;
    }

    int call(Call call) {
        calls++;
        if (calls > MOST_CALLS) {
            throw new IllegalStateException("this test makes more calls than the document speaks of: " + Due.sentence());
        }
        return call.on(join);
    }

    int call(String method, int... arguments) {
        return call(new Call(method, arguments));
    }

    void callAll(List<Call> all) {
        for (Call call : all) {
            call(call);
        }
    }

    /** Makes a call whose answer has to be this one. */
    void due(int want, String method, int... arguments) {
        Call call = new Call(method, arguments);
        int got = call(call);
        Due.same("call " + calls + ", " + call, got, want);
    }

    /** Makes the draft be just these tokens. */
    void draft(int... tokens) {
        call("clear");
        for (int token : tokens) {
            call("token", token);
        }
    }

    /** Stores a record of just these tokens, which the draft has afterwards too. */
    void record(int... tokens) {
        draft(tokens);
        call("store");
    }

    /** The record has to have these tokens and no other. */
    void dueRecord(int which, int... tokens) {
        for (int token = 0; token < 30; token++) {
            due(Numbers.isAmong(token, tokens) ? 1 : 0, "has", which, token);
        }
        due(tokens.length, "size", which);
    }

    /** The draft has to have these tokens and no other; it is empty afterwards. */
    void dueDraft(int... tokens) {
        int left = tokens.length;
        for (int token = 0; token < 30; token++) {
            if (Numbers.isAmong(token, tokens)) {
                left--;
            }
            due(left, "drop", token);
        }
        due(0, "clear");
    }
}
