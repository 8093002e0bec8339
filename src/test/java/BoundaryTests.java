import java.util.List;
import java.util.function.Consumer;

/**
 * Each sentence of the document that names a boundary case, with a test of its own: both sides of
 * the boundary, the least and the greatest int among the wrong inputs, and where a call is wrong
 * in two ways the answer of the test that is named first. That no refused call and no question
 * changes anything is looked at in NothingChangesTests.
 */
public final class BoundaryTests {
    private static final int LOW = Numbers.LOW;
    private static final int HIGH = Numbers.HIGH;

    private static int[] set(int... tokens) {
        return tokens;
    }

    private static int[] span(int first, int last) {
        return Numbers.span(first, last);
    }

    /** Records {0}, {1}, {2} and so on, so many of them, and an empty draft. */
    private static Run withRecords(int count) {
        Run x = new Run();
        for (int r = 0; r < count; r++) {
            x.record(r);
        }
        x.call("clear");
        return x;
    }

    /** So many equal records, and a draft that is the same. */
    private static Run withEqualRecords(int count, int... tokens) {
        Run x = new Run();
        x.draft(tokens);
        for (int r = 0; r < count; r++) {
            x.call("store");
        }
        return x;
    }

    /** With 0 to 20 records: -1 for every number that is not good, and another answer for every good one. */
    private static void dueOnlyForGoodNumbers(String method, int... further) {
        for (int count = 0; count <= 20; count++) {
            Run x = withRecords(count);
            for (int which : Numbers.outside(0, count - 1)) {
                x.due(-1, method, joined(which, further));
            }
            for (int which = 0; which < count; which++) {
                dueOtherThan(-1, withRecords(count), method, joined(which, further));
            }
        }
    }

    /** The same for a method of two records' numbers, either of which may be wrong, or both. */
    private static void dueOnlyForTwoGoodNumbers(String method) {
        for (int count = 0; count <= 20; count++) {
            int last = count - 1;
            for (int bad : Numbers.outside(0, last)) {
                Run x = withRecords(count);
                for (int good = 0; good < count; good++) {
                    x.due(-1, method, bad, good);
                    x.due(-1, method, good, bad);
                }
                for (int alsoBad : Numbers.fewOutside(0, last)) {
                    x.due(-1, method, bad, alsoBad);
                    x.due(-1, method, alsoBad, bad);
                }
            }
            for (int a = 0; a < count; a++) {
                Run x = withRecords(count);
                for (int b = 0; b < count; b++) {
                    dueOtherThan(-1, x, method, a, b);
                }
            }
        }
    }

    private static void dueOtherThan(int unwanted, Run x, String method, int... arguments) {
        Call call = new Call(method, arguments);
        Due.same(call + " is " + unwanted, x.call(call) == unwanted, false);
    }

    private static int[] joined(int first, int... further) {
        int[] all = new int[1 + further.length];
        all[0] = first;
        System.arraycopy(further, 0, all, 1, further.length);
        return all;
    }

    /** For the records {1 2 29}, {1 2 3}, {4 5 6}, {4 5}, the draft {4 5} and the threshold 1 / 2. */
    private static final List<Consumer<Run>> EVERY_METHOD = List.of(
        x -> x.due(3, "token", 9), x -> x.due(1, "drop", 4), x -> x.due(2, "clear"), x -> x.due(3, "recall", 0),
        x -> x.due(4, "store"), x -> x.due(3, "remove", 0), x -> x.due(0, "threshold", 1, 3),
        x -> x.due(4, "records"), x -> x.due(3, "size", 1), x -> x.due(1, "has", 0, 29),
        x -> x.due(2, "frequency", 1), x -> x.due(2, "common", 0, 1), x -> x.due(1, "similar", 0, 1),
        x -> x.due(2, "pairs"), x -> x.due(1, "degree", 0), x -> x.due(1, "partner", 0, 0),
        x -> x.due(1, "nearest", 0), x -> x.due(2, "matches"), x -> x.due(2, "match", 1),
        x -> x.due(2, "containing"), x -> x.due(2, "groups"), x -> x.due(2, "groupOf", 3),
        x -> x.due(2, "groupSize", 3));

    /** Calls, two at a time, after which everything is as it was before them. */
    private static final List<Consumer<Run>> BACK_AND_FORTH = List.of(
        x -> { x.due(3, "token", 7); x.due(2, "drop", 7); },
        x -> { x.due(4, "store"); x.due(4, "remove", 4); },
        x -> { x.due(0, "threshold", 7, 8); x.due(0, "threshold", 1, 2); },
        x -> { x.due(3, "recall", 2); x.due(2, "drop", 6); },
        x -> { x.due(-1, "token", 30); x.due(-1, "recall", 4); },
        x -> { x.due(2, "groups"); x.due(2, "pairs"); });

    private static void theLast512thCall() {
        for (Consumer<Run> lastCall : EVERY_METHOD) {
            for (Consumer<Run> twoCalls : BACK_AND_FORTH) {
                Run x = Run.with(set(1, 2, 29), set(1, 2, 3), set(4, 5, 6), set(4, 5));
                x.draft(4, 5);
                while (x.calls() + 2 < Run.MOST_CALLS) {
                    twoCalls.accept(x);
                }
                while (x.calls() + 1 < Run.MOST_CALLS) {
                    x.due(4, "records");
                }
                lastCall.accept(x);
                Due.same("the number of the last call", x.calls(), Run.MOST_CALLS);
            }
        }
    }

    private static void the512CallsOfOneKind() {
        Run stores = new Run();
        stores.due(1, "token", 4);
        for (int i = 0; stores.calls() < Run.MOST_CALLS - 2; i++) {
            stores.due(i < 20 ? i : -2, "store");
        }
        stores.due(19, "remove", 0);
        stores.due(19, "store");
        Run drafts = new Run();
        for (int i = 0; drafts.calls() < Run.MOST_CALLS - 2; i++) {
            drafts.due(i < 12 ? i + 1 : i % 30 < 12 ? 12 : -2, "token", i % 30);
        }
        drafts.due(11, "drop", 0);
        drafts.due(12, "token", 29);
        Run removes = withRecords(20);
        for (int left = 19; removes.calls() < Run.MOST_CALLS - 3; left--) {
            removes.due(left >= 0 ? left : -1, "remove", 0);
        }
        removes.due(1, "token", 0);
        removes.due(0, "store");
        removes.due(0, "remove", 0);
    }

    // Terms

    private static void tokensAre0To29() {
        for (int token = 0; token <= 29; token++) {
            Run x = new Run();
            x.due(1, "token", token);
            x.due(0, "store");
            x.dueRecord(0, token);
            for (int other = 0; other <= 29; other++) {
                x.due(other == token ? 1 : 0, "frequency", other);
            }
            x.dueDraft(token);
        }
        Run x = new Run();
        for (int token : Numbers.outside(0, 29)) {
            x.due(-1, "token", token);
            x.due(-1, "drop", token);
            x.due(-1, "frequency", token);
        }
    }

    private static void recordsHave1To12Tokens() {
        for (int size = 1; size <= 12; size++) {
            for (int first = 0; first + size <= 30; first++) {
                Run x = new Run();
                x.record(span(first, first + size - 1));
                x.due(1, "records");
                x.dueRecord(0, span(first, first + size - 1));
            }
        }
        Run none = new Run();
        none.due(-1, "store");
        none.due(0, "records");
        for (int[] twelve : Numbers.TWELVES) {
            Run x = new Run();
            x.draft(twelve);
            for (int thirteenth : Numbers.others(twelve)) {
                x.due(-2, "token", thirteenth);
            }
            x.due(0, "store");
            x.dueRecord(0, twelve);
        }
    }

    private static void atMost20Stored() {
        Run x = new Run();
        for (int r = 0; r < 20; r++) {
            x.draft(r, 29);
            x.due(r, "store");
            x.due(r + 1, "records");
        }
        x.draft(20, 21);
        x.due(-2, "store");
        x.due(20, "records");
        for (int r = 0; r < 20; r++) {
            x.due(2, "size", r);
            x.due(1, "has", r, r);
            x.due(1, "has", r, 29);
        }
        x.due(-1, "size", 20);
        x.due(20, "frequency", 29);
        x.due(0, "frequency", 20);
    }

    private static void draftHas0To12Tokens() {
        for (int[] twelve : Numbers.TWELVES) {
            Run x = new Run();
            x.due(0, "clear");
            for (int i = 0; i < 12; i++) {
                x.due(i + 1, "token", twelve[i]);
            }
            for (int other : Numbers.others(twelve)) {
                x.due(-2, "token", other);
            }
            x.dueDraft(twelve);
            x.due(0, "drop", twelve[0]);
            x.due(0, "clear");
        }
    }

    private static void draftIsEmptyAtFirst() {
        new Run().due(0, "clear");
        new Run().due(-1, "store");
        new Run().dueDraft();
        for (int token = 0; token <= 29; token++) {
            new Run().due(1, "token", token);
            new Run().due(0, "drop", token);
        }
    }

    /** Two sets with so many tokens each and so many common ones. */
    private interface Sizes {
        void with(int inFirst, int inSecond, int inBoth);
    }

    private static void everyTwoSizes(int least, Sizes test) {
        for (int a = least; a <= 12; a++) {
            for (int b = least; b <= 12; b++) {
                for (int both = 0; both <= Math.min(a, b); both++) {
                    if (a + b > 0) {
                        test.with(a, b, both);
                    }
                }
            }
        }
    }

    private static int[] firstSet(int inFirst) {
        return span(0, inFirst - 1);
    }

    /** A set with so many tokens, the first ones of which are the last ones of the first set. */
    private static int[] secondSet(int inFirst, int inSecond, int inBoth) {
        return span(inFirst - inBoth, inFirst - inBoth + inSecond - 1);
    }

    private static void thresholdIsAHalfAtFirst() {
        everyTwoSizes(1, (a, b, both) -> {
            int either = a + b - both;
            Run x = Run.with(firstSet(a), secondSet(a, b, both));
            x.due(2 * both >= either ? 1 : 0, "similar", 0, 1);
        });
    }

    private static void thresholdPartsAre1To12() {
        Run x = new Run();
        for (int t = 1; t <= 12; t++) {
            for (int u = t; u <= 12; u++) {
                x.due(0, "threshold", t, u);
            }
        }
    }

    /** Every threshold against every two sizes of records: at least as much is enough, a little less is not. */
    private static void similarIsAtLeast() {
        everyTwoSizes(1, (a, b, both) -> {
            int either = a + b - both;
            Run x = Run.with(firstSet(a), secondSet(a, b, both));
            for (int u = 1; u <= 12; u++) {
                for (int t = 1; t <= u; t++) {
                    x.due(0, "threshold", t, u);
                    x.due(u * both >= t * either ? 1 : 0, "similar", 0, 1);
                    x.due(u * both >= t * either ? 1 : 0, "similar", 1, 0);
                }
            }
        });
    }

    /**
     * No record is empty, so two empty sets never meet in an answer. What can be seen beside the
     * sentence: an empty draft and a record are not both empty and have nothing in common, so they
     * are not similar, and neither is an empty draft to one of the places that hold no record.
     */
    private static void anEmptyDraftIsSimilarToNoRecord() {
        for (int count = 0; count <= 20; count++) {
            for (int[] threshold : new int[][] {{1, 12}, {1, 2}, {12, 12}}) {
                Run x = withRecords(count);
                x.call("threshold", threshold);
                x.due(0, "matches");
                for (int from = 0; from <= 19; from++) {
                    x.due(-2, "match", from);
                }
            }
        }
        Run x = withRecords(20);
        while (x.call("records") > 0) {
            x.call("remove", 0);
        }
        x.due(0, "matches");
        x.due(-2, "match", 0);
        x.due(-2, "match", 19);
    }

    private static void linkedToItself() {
        for (int count = 1; count <= 20; count++) {
            Run x = withRecords(count);
            x.call("threshold", 12, 12);
            x.due(count, "groups");
            for (int r = 0; r < count; r++) {
                x.due(r, "groupOf", r);
                x.due(1, "groupSize", r);
            }
        }
    }

    /** Records {0 1}, {1 2}, {2 3} and so on, stored in the order told, with a threshold at which neighbours are similar. */
    private static Run chain(int... order) {
        int[][] records = new int[order.length][];
        for (int place = 0; place < order.length; place++) {
            records[order[place]] = set(place, place + 1);
        }
        Run x = Run.with(records);
        x.call("threshold", 1, 3);
        return x;
    }

    private static final int[][] ORDERS_OF_20 = {
        span(0, 19),
        {19, 18, 17, 16, 15, 14, 13, 12, 11, 10, 9, 8, 7, 6, 5, 4, 3, 2, 1, 0},
        {7, 0, 13, 2, 19, 5, 11, 3, 17, 1, 9, 15, 4, 18, 6, 12, 8, 16, 10, 14},
        {10, 9, 11, 8, 12, 7, 13, 6, 14, 5, 15, 4, 16, 3, 17, 2, 18, 1, 19, 0},
    };

    private static void linkedByTheLongestChain() {
        for (int[] order : ORDERS_OF_20) {
            Run x = chain(order);
            x.due(19, "pairs");
            x.due(1, "groups");
            for (int r = 0; r < 20; r++) {
                x.due(0, "groupOf", r);
                x.due(20, "groupSize", r);
            }
            x.call("threshold", 5, 12);
            x.due(20, "groups");
        }
    }

    private static void goodIfThereIsSuchARecord() {
        for (String method : new String[] {"size", "degree", "nearest", "groupOf", "groupSize", "recall", "remove"}) {
            dueOnlyForGoodNumbers(method);
        }
        dueOnlyForGoodNumbers("has", 0);
        dueOnlyForGoodNumbers("partner", 0);
    }

    private static void aNumberIsNoLongerGoodAfterARemove() {
        for (String method : new String[] {"size", "degree", "nearest", "groupOf", "groupSize", "recall", "remove"}) {
            for (int count = 1; count <= 20; count++) {
                Run x = withRecords(count);
                dueOtherThan(-1, x, "recall", count - 1);
                x.due(count - 1, "remove", 0);
                x.due(-1, method, count - 1);
            }
        }
        Run x = withRecords(20);
        x.call("remove", 7);
        x.due(-1, "has", 19, 19);
        x.due(-1, "has", 19, 30);
        x.due(-1, "partner", 19, 0);
        x.due(-1, "common", 19, 0);
        x.due(-1, "common", 0, 19);
        x.due(-1, "similar", 19, 19);
    }

    // Promise 1: a new object

    private static void noRecordsAtFirst() {
        Run x = new Run();
        x.due(0, "records");
        x.due(0, "pairs");
        x.due(0, "groups");
        x.due(0, "matches");
        x.due(0, "containing");
        for (int token = 0; token <= 29; token++) {
            x.due(0, "frequency", token);
            x.due(-1, "has", 0, token);
        }
        for (int which = 0; which <= 19; which++) {
            x.due(-1, "size", which);
            x.due(-1, "degree", which);
            x.due(-1, "partner", which, 0);
            x.due(-1, "nearest", which);
            x.due(-1, "groupOf", which);
            x.due(-1, "groupSize", which);
            x.due(-1, "common", which, which);
            x.due(-1, "similar", which, which);
            x.due(-1, "recall", which);
            x.due(-1, "remove", which);
            x.due(-2, "match", which);
        }
    }

    private static void theFirstRecordIsNumber0() {
        Run x = new Run();
        x.call("token", 3);
        x.due(0, "store");
        x.due(1, "records");
    }

    private static void aNewObjectSharesNothing() {
        // The shares are 3/6, too little for 3 / 5, and 4/5.
        Run other = Run.with(span(0, 4), set(2, 3, 4, 5), span(1, 4));
        other.call("threshold", 3, 5);
        other.draft(7, 8, 9);
        Run x = new Run();
        x.due(0, "records");
        x.due(0, "clear");
        x.record(10, 11, 12);
        x.record(11, 12, 13);
        x.due(1, "similar", 0, 1);
        other.due(3, "records");
        other.dueRecord(0, span(0, 4));
        other.dueRecord(1, 2, 3, 4, 5);
        other.due(0, "similar", 0, 1);
        other.due(1, "similar", 0, 2);
        other.dueDraft(7, 8, 9);
    }

    // Promise 2: token

    private static void tokenOutside() {
        for (int token : Numbers.outside(0, 29)) {
            Run x = new Run();
            x.due(-1, "token", token);
            x.due(0, "clear");
        }
        new Run().due(1, "token", 0);
        new Run().due(1, "token", 29);
    }

    private static void tokenWhenTheDraftHas12() {
        for (int[] twelve : Numbers.TWELVES) {
            for (int other : Numbers.others(twelve)) {
                Run x = new Run();
                x.draft(twelve);
                x.due(-2, "token", other);
                x.dueDraft(twelve);
            }
        }
    }

    private static void tokenWhenTheDraftHas11() {
        for (int[] twelve : Numbers.TWELVES) {
            for (int last : twelve) {
                Run x = new Run();
                x.draft(twelve);
                x.due(11, "drop", last);
                x.due(12, "token", last);
                for (int other : Numbers.others(twelve)) {
                    x.due(11, "drop", last);
                    x.due(12, "token", other);
                    x.due(-2, "token", last);
                    x.due(11, "drop", other);
                    x.due(12, "token", last);
                }
            }
        }
    }

    private static void tokenAmongThe12() {
        for (int[] twelve : Numbers.TWELVES) {
            Run x = new Run();
            x.draft(twelve);
            for (int token : twelve) {
                x.due(12, "token", token);
            }
            x.dueDraft(twelve);
        }
    }

    private static void tokenAmongFewer() {
        Run x = new Run();
        int[] twelve = Numbers.TWELVES[2];
        for (int i = 0; i < 12; i++) {
            x.due(i + 1, "token", twelve[i]);
            for (int j = 0; j <= i; j++) {
                x.due(i + 1, "token", twelve[j]);
            }
        }
        x.dueDraft(twelve);
    }

    private static void tokenOutsideWhenTheDraftHas12() {
        for (int[] twelve : Numbers.TWELVES) {
            Run x = new Run();
            x.draft(twelve);
            for (int token : Numbers.outside(0, 29)) {
                x.due(-1, "token", token);
            }
            x.dueDraft(twelve);
        }
    }

    // Promise 3: drop

    private static void dropOutside() {
        for (int token : Numbers.outside(0, 29)) {
            Run x = new Run();
            x.due(-1, "drop", token);
            x.draft(Numbers.TWELVES[2]);
            x.due(-1, "drop", token);
            x.dueDraft(Numbers.TWELVES[2]);
        }
        for (int token : set(0, 29)) {
            Run x = new Run();
            x.draft(4, token);
            x.due(1, "drop", token);
        }
    }

    private static void dropOfATokenThatIsNotThere() {
        for (int token = 0; token <= 29; token++) {
            new Run().due(0, "drop", token);
        }
        for (int[] twelve : Numbers.TWELVES) {
            Run x = new Run();
            x.draft(twelve);
            for (int token : Numbers.others(twelve)) {
                x.due(12, "drop", token);
            }
            x.dueDraft(twelve);
        }
    }

    private static void dropDownToNone() {
        for (int[] twelve : Numbers.TWELVES) {
            Run x = new Run();
            x.draft(twelve);
            for (int i = 0; i < 12; i++) {
                x.due(11 - i, "drop", twelve[i]);
                x.due(11 - i, "drop", twelve[i]);
            }
            x.due(0, "clear");
            x.due(-1, "store");
        }
    }

    // Promise 4: clear

    private static void clearOfAnEmptyDraft() {
        Run x = new Run();
        x.due(0, "clear");
        x.due(0, "clear");
        x.due(-1, "store");
    }

    private static void clearOfEverySize() {
        for (int[] twelve : Numbers.TWELVES) {
            Run x = new Run();
            for (int size = 1; size <= 12; size++) {
                for (int i = 0; i < size; i++) {
                    x.due(i + 1, "token", twelve[i]);
                }
                x.due(size, "clear");
                x.due(0, "clear");
                x.due(-1, "store");
            }
            x.dueDraft();
            x.due(0, "records");
        }
    }

    // Promise 5: recall

    private static void recallNotGood() {
        dueOnlyForGoodNumbers("recall");
    }

    private static void recallOfTheFirstAndTheLast() {
        Run x = new Run();
        x.record(29);
        for (int r = 1; r < 19; r++) {
            x.call("store");
        }
        x.record(Numbers.TWELVES[2]);
        x.due(1, "recall", 0);
        x.dueDraft(29);
        x.due(12, "recall", 19);
        x.dueDraft(Numbers.TWELVES[2]);
    }

    private static void recallTakesThePlaceOfTheDraft() {
        Run x = Run.with(set(3), span(0, 11));
        x.draft(span(18, 29));
        x.due(1, "recall", 0);
        x.dueDraft(3);
        x.due(12, "recall", 1);
        x.due(-2, "token", 12);
        x.due(1, "recall", 0);
        x.due(2, "token", 12);
        x.due(1, "drop", 3);
        x.dueRecord(0, 3);
        x.dueRecord(1, span(0, 11));
    }

    // Promise 6: store

    private static void storeOfAnEmptyDraft() {
        Run x = new Run();
        x.due(-1, "store");
        x.due(1, "token", 4);
        x.due(0, "drop", 4);
        x.due(-1, "store");
        x.due(1, "token", 4);
        x.due(1, "clear");
        x.due(-1, "store");
        x.due(0, "records");
        x.due(1, "token", 4);
        x.due(0, "store");
    }

    private static void storeWhenThereAre20() {
        Run x = withEqualRecords(19, 1, 2);
        x.due(19, "records");
        x.due(19, "store");
        x.due(-2, "store");
        x.due(-2, "store");
        x.due(20, "records");
        x.due(19, "remove", 19);
        x.due(19, "store");
        x.due(-2, "store");
        x.due(19, "remove", 0);
        x.due(18, "remove", 0);
        x.due(18, "store");
        x.due(19, "store");
        x.due(-2, "store");
    }

    private static void storeOfAnEmptyDraftWhenThereAre20() {
        Run x = withEqualRecords(20, 1, 2);
        x.call("clear");
        x.due(-1, "store");
        x.due(1, "token", 29);
        x.due(-2, "store");
        x.due(0, "drop", 29);
        x.due(-1, "store");
    }

    private static void storeAtTheEnd() {
        Run x = new Run();
        for (int r = 0; r < 20; r++) {
            x.draft(29 - r, 0);
            x.due(r, "store");
            x.due(1, "has", r, 29 - r);
        }
        for (int r = 0; r < 20; r++) {
            for (int other = 0; other < 5; other++) {
                x.due(other == r ? 1 : 0, "has", r, 29 - other);
            }
        }
    }

    private static void theDraftStaysAsItIs() {
        for (int[] twelve : Numbers.TWELVES) {
            Run x = new Run();
            x.draft(twelve);
            x.due(0, "store");
            x.due(1, "store");
            x.dueRecord(1, twelve);
            x.dueDraft(twelve);
            x.dueRecord(0, twelve);
        }
        Run one = new Run();
        one.draft(29);
        one.due(0, "store");
        one.dueDraft(29);
        one.dueRecord(0, 29);
        Run last = withEqualRecords(19, 5, 6, 7);
        last.due(19, "store");
        last.dueDraft(5, 6, 7);
    }

    // Promise 7: remove

    private static void removeNotGood() {
        dueOnlyForGoodNumbers("remove");
    }

    private static void removeDownToNone() {
        for (int which : set(0, 1)) {
            Run x = withRecords(20);
            for (int left = 19; left >= 0; left--) {
                x.due(left, "remove", Math.min(which, left));
                x.due(left, "records");
            }
            x.due(-1, "remove", 0);
            x.due(0, "records");
        }
        Run fromTheEnd = withRecords(20);
        for (int left = 19; left >= 0; left--) {
            fromTheEnd.due(-1, "remove", left + 1);
            fromTheEnd.due(left, "remove", left);
        }
        fromTheEnd.due(-1, "remove", 0);
    }

    private static void laterOnesGetNumbersLessByOne() {
        for (int count = 1; count <= 20; count++) {
            for (int which = 0; which < count; which++) {
                Run x = withRecords(count);
                x.due(count - 1, "remove", which);
                for (int r = 0; r < count - 1; r++) {
                    x.due(1, "has", r, r < which ? r : r + 1);
                    x.due(1, "size", r);
                }
                x.due(-1, "size", count - 1);
                x.due(0, "frequency", which);
            }
        }
    }

    private static void aRecordAfterARemoveGoesToTheEnd() {
        for (int which = 0; which < 20; which++) {
            Run x = withRecords(20);
            x.call("remove", which);
            x.draft(25, 26);
            x.due(19, "store");
            x.dueRecord(19, 25, 26);
            x.dueRecord(18, which == 19 ? 18 : 19);
        }
    }

    // Promise 8: threshold

    private static boolean isPart(int part) {
        return part >= 1 && part <= 12;
    }

    private static int dueThreshold(int t, int u) {
        if (!isPart(t) || !isPart(u)) {
            return -1;
        }
        return t > u ? -2 : 0;
    }

    private static void thresholdTOutside() {
        for (int t : Numbers.outside(1, 12)) {
            for (int u = 1; u <= 12; u++) {
                new Run().due(-1, "threshold", t, u);
            }
        }
        new Run().due(0, "threshold", 1, 12);
        new Run().due(0, "threshold", 12, 12);
    }

    private static void thresholdUOutside() {
        for (int u : Numbers.outside(1, 12)) {
            for (int t = 1; t <= 12; t++) {
                new Run().due(-1, "threshold", t, u);
            }
        }
        new Run().due(0, "threshold", 1, 1);
        new Run().due(0, "threshold", 1, 12);
    }

    private static void thresholdBothOutside() {
        for (int t : Numbers.outside(1, 12)) {
            for (int u : Numbers.outside(1, 12)) {
                new Run().due(-1, "threshold", t, u);
            }
        }
    }

    private static void thresholdTGreaterThanU() {
        Run x = new Run();
        for (int t = 1; t <= 12; t++) {
            for (int u = 1; u <= 12; u++) {
                x.due(t > u ? -2 : 0, "threshold", t, u);
            }
        }
    }

    private static void thresholdOutsideAndTGreaterThanU() {
        int[][] both = {{13, 12}, {13, 1}, {1, 0}, {12, 0}, {0, -1}, {HIGH, 12}, {HIGH, 1}, {1, LOW}, {12, LOW},
            {HIGH, LOW}, {14, 13}, {-1, -2}, {HIGH, HIGH - 1}, {LOW + 1, LOW}, {5, -5}, {268, 12}};
        for (int[] pair : both) {
            new Run().due(-1, "threshold", pair);
        }
    }

    private static void aRefusedThresholdIsNotSet() {
        int[] parts = {LOW, -1, 0, 1, 2, 3, 7, 11, 12, 13, 24, HIGH};
        for (int t : parts) {
            for (int u : parts) {
                int due = dueThreshold(t, u);
                if (due != 0) {
                    // 3 of 5 is enough for 3 / 5, and 4 of 7 is a little too few.
                    Run x = Run.with(set(0, 1, 2, 3), set(1, 2, 3, 4), set(10, 11, 12, 13, 14), set(11, 12, 13, 14, 15, 16));
                    x.due(0, "threshold", 3, 5);
                    x.due(due, "threshold", t, u);
                    x.due(1, "similar", 0, 1);
                    x.due(0, "similar", 2, 3);
                }
            }
        }
    }

    // Promise 9: records

    private static void recordsFrom0To20() {
        Run x = new Run();
        x.due(0, "records");
        x.call("token", 3);
        x.due(0, "records");
        for (int r = 1; r <= 20; r++) {
            x.call("store");
            x.due(r, "records");
        }
        x.call("store");
        x.due(20, "records");
        for (int r = 19; r >= 0; r--) {
            x.call("remove", 0);
            x.due(r, "records");
        }
        x.call("remove", 0);
        x.due(0, "records");
    }

    // Promise 10: size

    private static void sizeNotGood() {
        dueOnlyForGoodNumbers("size");
    }

    private static void sizeFrom1To12() {
        for (int[] twelve : Numbers.TWELVES) {
            Run x = new Run();
            for (int size = 1; size <= 12; size++) {
                x.call("token", twelve[size - 1]);
                x.due(size - 1, "store");
            }
            for (int size = 1; size <= 12; size++) {
                x.due(size, "size", size - 1);
            }
        }
    }

    // Promise 11: has

    private static void hasNotGood() {
        for (int token : set(0, 7, 29)) {
            dueOnlyForGoodNumbers("has", token);
        }
    }

    private static void hasTokenOutside() {
        for (int count : set(1, 2, 20)) {
            for (int which : set(0, count - 1)) {
                Run x = withRecords(count);
                for (int token : Numbers.outside(0, 29)) {
                    x.due(-2, "has", which, token);
                }
                x.due(which == 0 ? 1 : 0, "has", which, 0);
                x.due(0, "has", which, 29);
            }
        }
    }

    private static void hasNotGoodAndTokenOutside() {
        for (int count : set(0, 1, 20)) {
            for (int which : Numbers.outside(0, count - 1)) {
                Run x = withRecords(count);
                for (int token : Numbers.outside(0, 29)) {
                    x.due(-1, "has", which, token);
                }
            }
        }
    }

    private static void hasFromTheFirstToTheLastToken() {
        for (int[] twelve : Numbers.TWELVES) {
            Run x = Run.with(twelve, set(0), set(29));
            x.dueRecord(0, twelve);
            x.dueRecord(1, 0);
            x.dueRecord(2, 29);
        }
    }

    // Promise 12: frequency

    private static void frequencyOutside() {
        for (int count : set(0, 1, 20)) {
            Run x = withEqualRecords(count, 0, 29);
            for (int token : Numbers.outside(0, 29)) {
                x.due(-1, "frequency", token);
            }
            x.due(count, "frequency", 0);
            x.due(count, "frequency", 29);
        }
    }

    private static void frequencyFrom0To20() {
        for (int token = 0; token <= 29; token++) {
            Run x = new Run();
            x.draft(token);
            x.due(0, "frequency", token);
            for (int r = 1; r <= 20; r++) {
                x.call("store");
                x.due(r, "frequency", token);
            }
            x.due(0, "frequency", (token + 1) % 30);
            x.call("remove", 19);
            x.due(19, "frequency", token);
            x.draft((token + 1) % 30);
            x.due(0, "frequency", (token + 1) % 30);
        }
    }

    // Promise 13: common

    private static void commonNotGood() {
        dueOnlyForTwoGoodNumbers("common");
    }

    private static void commonFrom0To12() {
        everyTwoSizes(1, (a, b, both) -> {
            Run x = Run.with(firstSet(a), secondSet(a, b, both));
            x.due(both, "common", 0, 1);
            x.due(both, "common", 1, 0);
            x.due(a, "common", 0, 0);
            x.due(b, "common", 1, 1);
        });
    }

    // Promise 14: similar

    private static void similarNotGood() {
        dueOnlyForTwoGoodNumbers("similar");
    }

    private static void aRecordIsSimilarToItself() {
        for (int size = 1; size <= 12; size++) {
            Run x = Run.with(span(30 - size, 29));
            for (int u = 1; u <= 12; u++) {
                for (int t = 1; t <= u; t++) {
                    x.call("threshold", t, u);
                    x.due(1, "similar", 0, 0);
                }
            }
        }
        Run full = withRecords(20);
        full.call("threshold", 1, 1);
        for (int r = 0; r < 20; r++) {
            full.due(1, "similar", r, r);
        }
    }

    // Promise 15: pairs

    private static void pairsFromNoneToAll() {
        Run equal = new Run();
        Run different = new Run();
        equal.call("token", 5);
        equal.due(0, "pairs");
        different.due(0, "pairs");
        for (int count = 1; count <= 20; count++) {
            equal.call("store");
            equal.due(count * (count - 1) / 2, "pairs");
            different.record(count);
            different.due(0, "pairs");
        }
    }

    // Promise 16: degree

    private static void degreeNotGood() {
        dueOnlyForGoodNumbers("degree");
    }

    private static void degreeCountsNotThisOne() {
        for (int count = 1; count <= 20; count++) {
            Run equal = withEqualRecords(count, 5);
            Run different = withRecords(count);
            for (int r = 0; r < count; r++) {
                equal.due(count - 1, "degree", r);
                different.due(0, "degree", r);
            }
        }
    }

    // Promise 17: partner

    private static void partnerNotGood() {
        dueOnlyForGoodNumbers("partner", 0);
        dueOnlyForGoodNumbers("partner", 19);
    }

    private static void partnerIsInRisingOrder() {
        for (int count = 1; count <= 20; count++) {
            for (int which = 0; which < count; which++) {
                Run x = withEqualRecords(count, 5);
                for (int i = 0; i < count - 1; i++) {
                    x.due(i < which ? i : i + 1, "partner", which, i);
                }
            }
        }
        Run some = Run.with(set(1), set(2), set(1), set(2), set(2), set(1, 2), set(1));
        int[] ofTheFirst = {2, 5, 6};
        int[] ofTheFifth = {0, 1, 2, 3, 4, 6};
        for (int i = 0; i < ofTheFirst.length; i++) {
            some.due(ofTheFirst[i], "partner", 0, i);
        }
        for (int i = 0; i < ofTheFifth.length; i++) {
            some.due(ofTheFifth[i], "partner", 5, i);
        }
        some.due(-2, "partner", 0, 3);
        some.due(-2, "partner", 5, 6);
    }

    private static void partnerNoSuchOne() {
        for (int count = 1; count <= 20; count++) {
            int last = count - 2;
            for (int which : set(0, count / 2, count - 1)) {
                Run equal = withEqualRecords(count, 5);
                Run different = withRecords(count);
                for (int i : Numbers.outside(0, last)) {
                    equal.due(-2, "partner", which, i);
                    different.due(-2, "partner", which, i);
                }
                if (last >= 0) {
                    dueOtherThan(-2, equal, "partner", which, last);
                }
            }
        }
    }

    private static void partnerNotGoodAndNoSuchOne() {
        for (int count : set(0, 1, 2, 20)) {
            for (int which : Numbers.outside(0, count - 1)) {
                Run x = withEqualRecords(count, 5);
                for (int i : Numbers.outside(0, count - 2)) {
                    x.due(-1, "partner", which, i);
                }
            }
        }
    }

    // Promise 18: nearest

    private static void nearestNotGood() {
        dueOnlyForGoodNumbers("nearest");
    }

    private static void nearestNoOtherRecord() {
        Run x = Run.with(set(4));
        x.due(-2, "nearest", 0);
        x.call("token", 4);
        x.due(-2, "nearest", 0);
        x.call("store");
        x.due(1, "nearest", 0);
        x.due(0, "nearest", 1);
        x.call("remove", 0);
        x.due(-2, "nearest", 0);
    }

    private static void nearestNotGoodAndNoOtherRecord() {
        for (int count : set(0, 1)) {
            Run x = withRecords(count);
            for (int which : Numbers.outside(0, count - 1)) {
                x.due(-1, "nearest", which);
            }
        }
    }

    /** Of two others the second is nearest only if its share is greater, however little. */
    private static void nearestHasTheGreatestShare() {
        for (int a : set(1, 5, 11, 12)) {
            for (int b = 1; b <= 12; b++) {
                for (int withB = 0; withB <= Math.min(a, b); withB++) {
                    for (int c = 1; c <= 12; c++) {
                        for (int withC = 0; withC <= Math.min(a, c); withC++) {
                            boolean second = withC * (a + b - withB) > withB * (a + c - withC);
                            Run x = Run.with(firstSet(a), secondSet(a, b, withB), secondSet(a, c, withC));
                            x.due(second ? 2 : 1, "nearest", 0);
                        }
                    }
                }
            }
        }
    }

    private static void nearestOfSeveralIsTheLeastNumber() {
        for (int count = 2; count <= 20; count++) {
            for (int which : set(0, 1, count / 2, count - 1)) {
                int least = which == 0 ? 1 : 0;
                withEqualRecords(count, 5).due(least, "nearest", which);
                withRecords(count).due(least, "nearest", which);
            }
        }
        // Shares with record 2: 0, 1/2, 2/4, 3/6, 0.
        Run x = Run.with(set(9), set(0, 1), set(0, 1, 2, 3), set(0, 1), set(0, 1, 2, 10, 11), set(8));
        x.due(1, "nearest", 2);
        x.call("remove", 1);
        x.due(2, "nearest", 1);
        x.call("remove", 2);
        x.due(2, "nearest", 1);
    }

    private static void nearestHeedsNoThreshold() {
        Run x = Run.with(set(0, 1, 2), set(9), set(2, 3, 4));
        for (int u = 1; u <= 12; u++) {
            for (int t = 1; t <= u; t++) {
                x.call("threshold", t, u);
                x.due(2, "nearest", 0);
                x.due(0, "nearest", 1);
            }
        }
    }

    // Promise 19: matches

    private static void matchesFrom0To20() {
        Run x = new Run();
        x.call("token", 5);
        x.due(0, "matches");
        for (int count = 1; count <= 20; count++) {
            x.call("store");
            x.due(count, "matches");
        }
        x.draft(6);
        x.due(0, "matches");
        x.call("clear");
        x.due(0, "matches");
    }

    /** Every threshold against every size of a record and of the draft, the empty draft too. */
    private static void matchesIsAtLeast() {
        everyTwoSizes(0, (a, b, both) -> {
            if (a > 0) {
                int either = a + b - both;
                Run x = Run.with(firstSet(a));
                x.draft(secondSet(a, b, both));
                for (int u = 1; u <= 12; u++) {
                    for (int t = 1; t <= u; t++) {
                        boolean similar = u * both >= t * either;
                        x.due(0, "threshold", t, u);
                        x.due(similar ? 1 : 0, "matches");
                        x.due(similar ? 0 : -2, "match", 0);
                    }
                }
            }
        });
    }

    // Promise 20: match

    private static void matchFromOutside() {
        for (int count : set(0, 1, 19, 20)) {
            Run x = withEqualRecords(count, 5);
            for (int from : Numbers.outside(0, 19)) {
                x.due(-1, "match", from);
            }
            x.due(count > 0 ? 0 : -2, "match", 0);
            x.due(count > 19 ? 19 : -2, "match", 19);
        }
    }

    private static void matchNone() {
        for (int count = 0; count <= 20; count++) {
            Run x = withRecords(count);
            x.draft(25, 26);
            for (int from = 0; from <= 19; from++) {
                x.due(-2, "match", from);
            }
        }
    }

    private static void matchNoneAtFromOrLater() {
        for (int count = 1; count <= 20; count++) {
            for (int last = 0; last < count; last++) {
                Run x = withRecords(count);
                x.draft(last);
                for (int from = 0; from <= 19; from++) {
                    x.due(from <= last ? last : -2, "match", from);
                }
            }
        }
    }

    private static void matchIsTheLeastNumber() {
        for (int count = 1; count <= 20; count++) {
            Run x = withEqualRecords(count, 5, 6);
            for (int from = 0; from <= 19; from++) {
                x.due(from < count ? from : -2, "match", from);
            }
        }
        Run some = Run.with(set(1), set(5), set(1), set(1), set(5), set(1));
        some.draft(5);
        int[] due = {1, 1, 4, 4, 4, -2, -2};
        for (int from = 0; from < due.length; from++) {
            some.due(due[from], "match", from);
        }
    }

    private static void matchFromOutsideAndNone() {
        for (int count : set(0, 1, 20)) {
            Run x = withRecords(count);
            x.draft(25);
            for (int from : Numbers.outside(0, 19)) {
                x.due(-1, "match", from);
            }
        }
    }

    // Promise 21: containing

    private static void containingAnEmptyDraft() {
        Run x = new Run();
        x.due(0, "containing");
        for (int count = 1; count <= 20; count++) {
            x.record(count);
            x.call("clear");
            x.due(count, "containing");
        }
    }

    private static void containingAllTokens() {
        everyTwoSizes(1, (a, b, both) -> {
            Run x = Run.with(firstSet(a));
            x.draft(secondSet(a, b, both));
            x.due(both == b ? 1 : 0, "containing");
        });
        Run equal = withEqualRecords(20, Numbers.TWELVES[2]);
        equal.due(20, "containing");
        equal.call("drop", 0);
        equal.due(20, "containing");
        equal.call("token", 1);
        equal.due(0, "containing");
    }

    // Promise 22: groups

    private static void groupsFromNoneToAll() {
        new Run().due(0, "groups");
        for (int count = 1; count <= 20; count++) {
            withRecords(count).due(count, "groups");
            withEqualRecords(count, 5).due(1, "groups");
        }
        Run emptied = withEqualRecords(20, 5);
        while (emptied.call("records") > 0) {
            emptied.call("remove", 0);
        }
        emptied.due(0, "groups");
    }

    // Promise 23: groupOf

    private static void groupOfNotGood() {
        dueOnlyForGoodNumbers("groupOf");
    }

    private static void groupOfIsTheLeastNumber() {
        // {0 1}, {1 2} and {2 3} are a chain whose middle comes last; {9 10} and {10 11} are another one.
        Run x = Run.with(set(20), set(9, 10), set(0, 1), set(2, 3), set(10, 11), set(1, 2));
        x.call("threshold", 1, 3);
        int[] due = {0, 1, 2, 2, 1, 2};
        for (int r = 0; r < due.length; r++) {
            x.due(due[r], "groupOf", r);
        }
        x.call("remove", 5);
        x.due(2, "groupOf", 2);
        x.due(3, "groupOf", 3);
    }

    // Promise 24: groupSize

    private static void groupSizeNotGood() {
        dueOnlyForGoodNumbers("groupSize");
    }

    private static void groupSizeFrom1To20() {
        for (int count = 1; count <= 20; count++) {
            Run equal = withEqualRecords(count, 5);
            Run different = withRecords(count);
            Run chained = chain(span(0, count - 1));
            for (int r = 0; r < count; r++) {
                equal.due(count, "groupSize", r);
                different.due(1, "groupSize", r);
                chained.due(count, "groupSize", r);
            }
        }
    }

    public static void main(String[] args) {
        Due.sentence("What it is: an object is used for at most 512 calls; the 512th answers still", BoundaryTests::theLast512thCall);
        Due.sentence("What it is: an object is used for at most 512 calls; all may be of one kind", BoundaryTests::the512CallsOfOneKind);

        Due.sentence("Terms: tokens are numbered 0 .. 29", BoundaryTests::tokensAre0To29);
        Due.sentence("Terms: a record is a set of 1 to 12 tokens", BoundaryTests::recordsHave1To12Tokens);
        Due.sentence("Terms: at most 20 are stored", BoundaryTests::atMost20Stored);
        Due.sentence("Terms: the draft is a set of 0 to 12 tokens", BoundaryTests::draftHas0To12Tokens);
        Due.sentence("Terms: the draft is empty at first", BoundaryTests::draftIsEmptyAtFirst);
        Due.sentence("Terms: the threshold is t / u with 1 <= t <= u <= 12", BoundaryTests::thresholdPartsAre1To12);
        Due.sentence("Terms: the threshold is 1 / 2 at first", BoundaryTests::thresholdIsAHalfAtFirst);
        Due.sentence("Terms: similar if u times the common tokens is at least t times all tokens", BoundaryTests::similarIsAtLeast);
        Due.sentence("Terms: two empty sets are similar too (never seen from outside), an empty draft and a record are not", BoundaryTests::anEmptyDraftIsSimilarToNoRecord);
        Due.sentence("Terms: linked if they are the same record", BoundaryTests::linkedToItself);
        Due.sentence("Terms: linked if there is a chain of records", BoundaryTests::linkedByTheLongestChain);
        Due.sentence("Terms: a record's number is good if there is such a record", BoundaryTests::goodIfThereIsSuchARecord);
        Due.sentence("Terms: a record's number is good if there is such a record, no longer after a remove", BoundaryTests::aNumberIsNoLongerGoodAfterARemove);

        Due.sentence("Promise 1: no records at first", BoundaryTests::noRecordsAtFirst);
        Due.sentence("Promise 1: no records at first, so the first is number 0", BoundaryTests::theFirstRecordIsNumber0);
        Due.sentence("Promise 1: no records at first, whatever another object has", BoundaryTests::aNewObjectSharesNothing);

        Due.sentence("Promise 2: -1 if token is not in 0 .. 29", BoundaryTests::tokenOutside);
        Due.sentence("Promise 2: -2 if the draft has 12 tokens", BoundaryTests::tokenWhenTheDraftHas12);
        Due.sentence("Promise 2: -2 if the draft has 12 tokens, not if it has 11", BoundaryTests::tokenWhenTheDraftHas11);
        Due.sentence("Promise 2: .. and this one is not among them", BoundaryTests::tokenAmongThe12);
        Due.sentence("Promise 2: how many tokens the draft has now, when this one is among them", BoundaryTests::tokenAmongFewer);
        Due.sentence("Promise 2: -1 before -2", BoundaryTests::tokenOutsideWhenTheDraftHas12);

        Due.sentence("Promise 3: -1 if token is not in 0 .. 29", BoundaryTests::dropOutside);
        Due.sentence("Promise 3: how many tokens the draft has now, when the token is not there", BoundaryTests::dropOfATokenThatIsNotThere);
        Due.sentence("Promise 3: how many tokens the draft has now, from 12 to none", BoundaryTests::dropDownToNone);

        Due.sentence("Promise 4: how many tokens it had, none", BoundaryTests::clearOfAnEmptyDraft);
        Due.sentence("Promise 4: the draft becomes empty; how many tokens it had, 1 to 12", BoundaryTests::clearOfEverySize);

        Due.sentence("Promise 5: -1 if which is not good", BoundaryTests::recallNotGood);
        Due.sentence("Promise 5: the same set as a record, the first or the last of 20", BoundaryTests::recallOfTheFirstAndTheLast);
        Due.sentence("Promise 5: the same set as a record, whatever the draft was", BoundaryTests::recallTakesThePlaceOfTheDraft);

        Due.sentence("Promise 6: -1 if the draft is empty", BoundaryTests::storeOfAnEmptyDraft);
        Due.sentence("Promise 6: -2 if there are 20 records", BoundaryTests::storeWhenThereAre20);
        Due.sentence("Promise 6: -1 before -2", BoundaryTests::storeOfAnEmptyDraftWhenThereAre20);
        Due.sentence("Promise 6: at the end, with the new record's number", BoundaryTests::storeAtTheEnd);
        Due.sentence("Promise 6: the draft stays as it is", BoundaryTests::theDraftStaysAsItIs);

        Due.sentence("Promise 7: -1 if which is not good", BoundaryTests::removeNotGood);
        Due.sentence("Promise 7: how many are left, down to none", BoundaryTests::removeDownToNone);
        Due.sentence("Promise 7: later ones get numbers less by one", BoundaryTests::laterOnesGetNumbersLessByOne);
        Due.sentence("Promise 7: later ones get numbers less by one, and a new one comes after them", BoundaryTests::aRecordAfterARemoveGoesToTheEnd);

        Due.sentence("Promise 8: -1 if t is not in 1 .. 12", BoundaryTests::thresholdTOutside);
        Due.sentence("Promise 8: -1 if u is not in 1 .. 12", BoundaryTests::thresholdUOutside);
        Due.sentence("Promise 8: -1 if neither is in 1 .. 12", BoundaryTests::thresholdBothOutside);
        Due.sentence("Promise 8: -2 if t > u", BoundaryTests::thresholdTGreaterThanU);
        Due.sentence("Promise 8: -1 before -2", BoundaryTests::thresholdOutsideAndTGreaterThanU);
        Due.sentence("Promise 8: a refused threshold is not set", BoundaryTests::aRefusedThresholdIsNotSet);

        Due.sentence("Promise 9: how many records there are, 0 to 20", BoundaryTests::recordsFrom0To20);

        Due.sentence("Promise 10: -1 if which is not good", BoundaryTests::sizeNotGood);
        Due.sentence("Promise 10: how many tokens a record has, 1 to 12", BoundaryTests::sizeFrom1To12);

        Due.sentence("Promise 11: -1 if which is not good", BoundaryTests::hasNotGood);
        Due.sentence("Promise 11: -2 if token is not in 0 .. 29", BoundaryTests::hasTokenOutside);
        Due.sentence("Promise 11: -1 before -2", BoundaryTests::hasNotGoodAndTokenOutside);
        Due.sentence("Promise 11: 1 if the record has the token, otherwise 0, from 0 to 29", BoundaryTests::hasFromTheFirstToTheLastToken);

        Due.sentence("Promise 12: -1 if token is not in 0 .. 29", BoundaryTests::frequencyOutside);
        Due.sentence("Promise 12: how many records have the token, 0 to 20", BoundaryTests::frequencyFrom0To20);

        Due.sentence("Promise 13: -1 if a or b is not good", BoundaryTests::commonNotGood);
        Due.sentence("Promise 13: how many common tokens two records have, 0 to 12", BoundaryTests::commonFrom0To12);

        Due.sentence("Promise 14: -1 if a or b is not good", BoundaryTests::similarNotGood);
        Due.sentence("Promise 14: a record is similar to itself", BoundaryTests::aRecordIsSimilarToItself);

        Due.sentence("Promise 15: how many pairs of records a < b are similar, none to all", BoundaryTests::pairsFromNoneToAll);

        Due.sentence("Promise 16: -1 if which is not good", BoundaryTests::degreeNotGood);
        Due.sentence("Promise 16: records other than this one", BoundaryTests::degreeCountsNotThisOne);

        Due.sentence("Promise 17: -1 if which is not good", BoundaryTests::partnerNotGood);
        Due.sentence("Promise 17: in rising order of numbers, 0 for the first, other than this one", BoundaryTests::partnerIsInRisingOrder);
        Due.sentence("Promise 17: -2 if there is no such one", BoundaryTests::partnerNoSuchOne);
        Due.sentence("Promise 17: -1 before -2", BoundaryTests::partnerNotGoodAndNoSuchOne);

        Due.sentence("Promise 18: -1 if which is not good", BoundaryTests::nearestNotGood);
        Due.sentence("Promise 18: -2 if there is no other record", BoundaryTests::nearestNoOtherRecord);
        Due.sentence("Promise 18: -1 before -2", BoundaryTests::nearestNotGoodAndNoOtherRecord);
        Due.sentence("Promise 18: whose share with it is greatest", BoundaryTests::nearestHasTheGreatestShare);
        Due.sentence("Promise 18: whose share with it is greatest, at any threshold", BoundaryTests::nearestHeedsNoThreshold);
        Due.sentence("Promise 18: among several the one with the least number", BoundaryTests::nearestOfSeveralIsTheLeastNumber);

        Due.sentence("Promise 19: how many records are similar to the draft, 0 to 20", BoundaryTests::matchesFrom0To20);
        Due.sentence("Promise 19: how many records are similar to the draft, at every threshold", BoundaryTests::matchesIsAtLeast);

        Due.sentence("Promise 20: -1 if from is not in 0 .. 19", BoundaryTests::matchFromOutside);
        Due.sentence("Promise 20: -2 if there is none", BoundaryTests::matchNone);
        Due.sentence("Promise 20: -2 if there is none >= from", BoundaryTests::matchNoneAtFromOrLater);
        Due.sentence("Promise 20: the least number >= from", BoundaryTests::matchIsTheLeastNumber);
        Due.sentence("Promise 20: -1 before -2", BoundaryTests::matchFromOutsideAndNone);

        Due.sentence("Promise 21: all records contain an empty draft", BoundaryTests::containingAnEmptyDraft);
        Due.sentence("Promise 21: all tokens of the draft", BoundaryTests::containingAllTokens);

        Due.sentence("Promise 22: how many groups there are, none to 20", BoundaryTests::groupsFromNoneToAll);

        Due.sentence("Promise 23: -1 if which is not good", BoundaryTests::groupOfNotGood);
        Due.sentence("Promise 23: the least number of a record in the group", BoundaryTests::groupOfIsTheLeastNumber);

        Due.sentence("Promise 24: -1 if which is not good", BoundaryTests::groupSizeNotGood);
        Due.sentence("Promise 24: how many records the group has, 1 to 20", BoundaryTests::groupSizeFrom1To20);
        Due.end();
    }
}
