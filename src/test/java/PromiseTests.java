import java.util.StringJoiner;

/** For each promise of the document: ordinary inputs, the edges it names, and wrong inputs. */
public final class PromiseTests {
    private static final int LOW = Integer.MIN_VALUE;
    private static final int HIGH = Integer.MAX_VALUE;

    private static int wrong = 0;
    private static int promise = 0;

    private static void due(String call, int got, int want) {
        if (got != want) {
            wrong++;
            System.out.println("promise " + promise + ": " + call + " answered " + got + ", due is " + want);
        }
    }

    /** Makes the draft be just these tokens. */
    private static void draft(SimilarityJoin x, int... tokens) {
        x.clear();
        for (int token : tokens) {
            x.token(token);
        }
    }

    /** A new object with these records, in this order, and an empty draft. */
    private static SimilarityJoin with(int[]... records) {
        SimilarityJoin x = new SimilarityJoin();
        for (int[] record : records) {
            draft(x, record);
            x.store();
        }
        x.clear();
        return x;
    }

    private static int[] set(int... tokens) {
        return tokens;
    }

    /** The tokens first .. last. */
    private static int[] span(int first, int last) {
        int[] tokens = new int[last - first + 1];
        for (int i = 0; i < tokens.length; i++) {
            tokens[i] = first + i;
        }
        return tokens;
    }

    private static String tokensOf(SimilarityJoin x, int which) {
        StringJoiner found = new StringJoiner(" ");
        for (int token = 0; token < 30; token++) {
            if (x.has(which, token) == 1) {
                found.add("" + token);
            }
        }
        return found.toString();
    }

    private static void dueTokens(String what, SimilarityJoin x, int which, String want) {
        String got = tokensOf(x, which);
        if (!got.equals(want)) {
            wrong++;
            System.out.println("promise " + promise + ": " + what + " has tokens " + got + ", due is " + want);
        }
    }

    /** The draft's tokens, seen by storing it; uses up one record. */
    private static void dueDraft(SimilarityJoin x, String want) {
        dueTokens("the draft", x, x.store(), want);
    }

    private static void newObject() {
        promise = 1;
        SimilarityJoin x = new SimilarityJoin();
        due("records()", x.records(), 0);
        due("pairs()", x.pairs(), 0);
        due("groups()", x.groups(), 0);
        due("size(0)", x.size(0), -1);
        due("clear()", x.clear(), 0);
        due("matches()", x.matches(), 0);
        due("match(0)", x.match(0), -2);
        due("containing()", x.containing(), 0);
        due("frequency(0)", x.frequency(0), 0);

        // The threshold is 1 / 2 at first: 2 of 4 is enough, 1 of 3 is not.
        SimilarityJoin y = with(set(0, 1, 2), set(1, 2, 3), set(3, 4));
        due("similar at first, 2 of 4", y.similar(0, 1), 1);
        due("similar at first, 1 of 4", y.similar(1, 2), 0);
        SimilarityJoin z = with(set(0, 1), set(1, 2));
        due("similar at first, 1 of 3", z.similar(0, 1), 0);

        // Objects share nothing.
        due("records() of another", new SimilarityJoin().records(), 0);
    }

    private static void token() {
        promise = 2;
        SimilarityJoin x = new SimilarityJoin();
        due("token(0)", x.token(0), 1);
        due("token(29)", x.token(29), 2);
        due("token(29) again", x.token(29), 2);
        due("token(-1)", x.token(-1), -1);
        due("token(30)", x.token(30), -1);
        due("token(32)", x.token(32), -1);
        due("token(LOW)", x.token(LOW), -1);
        due("token(HIGH)", x.token(HIGH), -1);
        dueDraft(x, "0 29");
        for (int i = 1; i <= 10; i++) {
            due("token(" + i + ")", x.token(i), i + 2);
        }
        due("a 13th token", x.token(11), -2);
        due("one of the 12", x.token(5), 12);
        due("the least of the 12", x.token(0), 12);
        due("a bad token with 12", x.token(30), -1);
        dueDraft(x, "0 1 2 3 4 5 6 7 8 9 10 29");
        x.drop(0);
        due("a token after a drop", x.token(11), 12);
    }

    private static void drop() {
        promise = 3;
        SimilarityJoin x = new SimilarityJoin();
        due("drop(3) from an empty draft", x.drop(3), 0);
        draft(x, 0, 7, 29);
        due("drop(8)", x.drop(8), 3);
        due("drop(7)", x.drop(7), 2);
        due("drop(7) again", x.drop(7), 2);
        due("drop(-1)", x.drop(-1), -1);
        due("drop(30)", x.drop(30), -1);
        due("drop(32)", x.drop(32), -1);
        due("drop(LOW)", x.drop(LOW), -1);
        due("drop(HIGH)", x.drop(HIGH), -1);
        dueDraft(x, "0 29");
        due("drop(29)", x.drop(29), 1);
        due("drop(0)", x.drop(0), 0);
        dueTokens("the stored record", x, 0, "0 29");
    }

    private static void clear() {
        promise = 4;
        SimilarityJoin x = new SimilarityJoin();
        due("clear() of an empty draft", x.clear(), 0);
        draft(x, span(18, 29));
        x.store();
        due("clear() of 12", x.clear(), 12);
        due("clear() again", x.clear(), 0);
        due("store() after it", x.store(), -1);
        due("size(0)", x.size(0), 12);
        due("token(4) after it", x.token(4), 1);
    }

    private static void recall() {
        promise = 5;
        SimilarityJoin x = with(set(1, 2, 3), set(29));
        draft(x, 5, 6, 7, 8);
        due("recall(-1)", x.recall(-1), -1);
        due("recall(2)", x.recall(2), -1);
        due("recall(LOW)", x.recall(LOW), -1);
        due("recall(HIGH)", x.recall(HIGH), -1);
        dueDraft(x, "5 6 7 8");
        due("recall(0)", x.recall(0), 3);
        dueDraft(x, "1 2 3");
        due("recall(1)", x.recall(1), 1);
        dueDraft(x, "29");
        x.recall(0);
        x.token(9);
        x.drop(1);
        dueTokens("the recalled record", x, 0, "1 2 3");
        due("recall(0) of a new object", new SimilarityJoin().recall(0), -1);
    }

    private static void store() {
        promise = 6;
        SimilarityJoin x = new SimilarityJoin();
        due("store() of an empty draft", x.store(), -1);
        due("records()", x.records(), 0);
        draft(x, 4, 6);
        for (int i = 0; i < 20; i++) {
            due("store()", x.store(), i);
        }
        x.token(9);
        due("a 21st store()", x.store(), -2);
        due("records()", x.records(), 20);
        dueTokens("the last record", x, 19, "4 6");
        due("the draft stays", x.clear(), 3);
        due("store() of an empty draft at 20", x.store(), -1);
        x.remove(3);
        x.token(8);
        due("store() after a remove", x.store(), 19);
        dueTokens("the new record", x, 19, "8");
        dueTokens("the one before it", x, 18, "4 6");
    }

    private static void remove() {
        promise = 7;
        SimilarityJoin x = with(set(0), set(1), set(2), set(3));
        draft(x, 7, 8);
        due("remove(-1)", x.remove(-1), -1);
        due("remove(4)", x.remove(4), -1);
        due("remove(LOW)", x.remove(LOW), -1);
        due("remove(HIGH)", x.remove(HIGH), -1);
        due("records()", x.records(), 4);
        due("remove(1)", x.remove(1), 3);
        dueTokens("record 0", x, 0, "0");
        dueTokens("record 1", x, 1, "2");
        dueTokens("record 2", x, 2, "3");
        due("size(3)", x.size(3), -1);
        due("remove(2), the last", x.remove(2), 2);
        dueTokens("record 1", x, 1, "2");
        due("frequency(3)", x.frequency(3), 0);
        due("remove(0), the first", x.remove(0), 1);
        dueTokens("record 0", x, 0, "2");
        due("remove(0), the only one", x.remove(0), 0);
        due("remove(0) of none", x.remove(0), -1);
        due("the draft stays", x.clear(), 2);
    }

    private static void threshold() {
        promise = 8;
        SimilarityJoin x = with(set(0, 1, 2), set(1, 2, 3));
        due("threshold(0, 0)", x.threshold(0, 0), -1);
        due("threshold(0, 5)", x.threshold(0, 5), -1);
        due("threshold(5, 0)", x.threshold(5, 0), -1);
        due("threshold(1, 13)", x.threshold(1, 13), -1);
        due("threshold(13, 13)", x.threshold(13, 13), -1);
        due("threshold(13, 12)", x.threshold(13, 12), -1);
        due("threshold(-1, 5)", x.threshold(-1, 5), -1);
        due("threshold(LOW, HIGH)", x.threshold(LOW, HIGH), -1);
        due("threshold(1, HIGH)", x.threshold(1, HIGH), -1);
        due("threshold(2, 1)", x.threshold(2, 1), -2);
        due("threshold(12, 11)", x.threshold(12, 11), -2);
        due("similar, still 1 / 2", x.similar(0, 1), 1);
        due("threshold(6, 11)", x.threshold(6, 11), 0);
        due("similar at 6 / 11", x.similar(0, 1), 0);
        due("threshold(7, 3)", x.threshold(7, 3), -2);
        due("similar, still 6 / 11", x.similar(0, 1), 0);
        due("threshold(6, 12)", x.threshold(6, 12), 0);
        due("similar at 6 / 12", x.similar(0, 1), 1);
        due("threshold(12, 12)", x.threshold(12, 12), 0);
        due("similar at 12 / 12", x.similar(0, 1), 0);
        due("threshold(1, 12)", x.threshold(1, 12), 0);
        due("similar at 1 / 12", x.similar(0, 1), 1);
        due("threshold(1, 1)", x.threshold(1, 1), 0);
        due("similar at 1 / 1", x.similar(0, 1), 0);
    }

    private static void records() {
        promise = 9;
        SimilarityJoin x = new SimilarityJoin();
        due("records() of none", x.records(), 0);
        x.token(3);
        due("records() with a draft", x.records(), 0);
        x.store();
        x.store();
        due("records() of two equal ones", x.records(), 2);
        x.remove(0);
        due("records() after a remove", x.records(), 1);
        for (int i = 0; i < 25; i++) {
            x.store();
        }
        due("records() at most", x.records(), 20);
    }

    private static void size() {
        promise = 10;
        SimilarityJoin x = with(set(29), span(0, 11), set(4, 5));
        due("size(0)", x.size(0), 1);
        due("size(1)", x.size(1), 12);
        due("size(2)", x.size(2), 2);
        due("size(3)", x.size(3), -1);
        due("size(-1)", x.size(-1), -1);
        due("size(LOW)", x.size(LOW), -1);
        due("size(HIGH)", x.size(HIGH), -1);
    }

    private static void has() {
        promise = 11;
        SimilarityJoin x = with(set(0, 29), set(5));
        due("has(0, 0)", x.has(0, 0), 1);
        due("has(0, 29)", x.has(0, 29), 1);
        due("has(0, 5)", x.has(0, 5), 0);
        due("has(1, 5)", x.has(1, 5), 1);
        due("has(1, 0)", x.has(1, 0), 0);
        due("has(0, -1)", x.has(0, -1), -2);
        due("has(0, 30)", x.has(0, 30), -2);
        due("has(0, 32)", x.has(0, 32), -2);
        due("has(0, LOW)", x.has(0, LOW), -2);
        due("has(0, HIGH)", x.has(0, HIGH), -2);
        due("has(2, 0)", x.has(2, 0), -1);
        due("has(-1, 0)", x.has(-1, 0), -1);
        due("has(2, 30), both wrong", x.has(2, 30), -1);
        due("has(-1, -1), both wrong", x.has(-1, -1), -1);
        due("has(HIGH, HIGH), both wrong", x.has(HIGH, HIGH), -1);
    }

    private static void frequency() {
        promise = 12;
        SimilarityJoin x = with(set(0, 29), set(0), set(0, 5), set(0, 5));
        draft(x, 5, 6);
        due("frequency(0)", x.frequency(0), 4);
        due("frequency(5)", x.frequency(5), 2);
        due("frequency(29)", x.frequency(29), 1);
        due("frequency(6), in the draft alone", x.frequency(6), 0);
        due("frequency(-1)", x.frequency(-1), -1);
        due("frequency(30)", x.frequency(30), -1);
        due("frequency(32)", x.frequency(32), -1);
        due("frequency(LOW)", x.frequency(LOW), -1);
        due("frequency(HIGH)", x.frequency(HIGH), -1);
        x.remove(3);
        due("frequency(5) after a remove", x.frequency(5), 1);
    }

    private static void common() {
        promise = 13;
        SimilarityJoin x = with(set(0, 1, 2, 29), set(1, 2, 3, 29), set(4));
        due("common(0, 1)", x.common(0, 1), 3);
        due("common(1, 0)", x.common(1, 0), 3);
        due("common(0, 2)", x.common(0, 2), 0);
        due("common(0, 0)", x.common(0, 0), 4);
        due("common(0, 3)", x.common(0, 3), -1);
        due("common(3, 0)", x.common(3, 0), -1);
        due("common(-1, 0)", x.common(-1, 0), -1);
        due("common(0, -1)", x.common(0, -1), -1);
        due("common(LOW, HIGH)", x.common(LOW, HIGH), -1);
    }

    private static void similar() {
        promise = 14;
        SimilarityJoin x = with(set(0, 1, 2), set(1, 2, 3), set(4), set(0, 1, 2));
        due("similar(0, 1)", x.similar(0, 1), 1);
        due("similar(1, 0)", x.similar(1, 0), 1);
        due("similar(0, 2)", x.similar(0, 2), 0);
        x.threshold(1, 12);
        due("similar(0, 2), nothing common", x.similar(0, 2), 0);
        x.threshold(12, 12);
        due("similar(0, 0)", x.similar(0, 0), 1);
        due("similar(0, 3), the same set", x.similar(0, 3), 1);
        due("similar(0, 1) at 1", x.similar(0, 1), 0);
        due("similar(0, 4)", x.similar(0, 4), -1);
        due("similar(4, 0)", x.similar(4, 0), -1);
        due("similar(4, 4)", x.similar(4, 4), -1);
        due("similar(-1, 0)", x.similar(-1, 0), -1);
        due("similar(0, -1)", x.similar(0, -1), -1);
        due("similar(HIGH, LOW)", x.similar(HIGH, LOW), -1);

        // 1 of 12 and 1 of 13, against 1 / 12.
        SimilarityJoin y = with(span(0, 11), set(11), set(11, 12));
        y.threshold(1, 12);
        due("similar, 1 of 12", y.similar(0, 1), 1);
        due("similar, 1 of 13", y.similar(0, 2), 0);
        // 7 of 11 against 7 / 11 and the next greater and lesser fractions.
        SimilarityJoin z = with(span(0, 8), span(2, 10));
        z.threshold(7, 11);
        due("similar, 7 of 11 at 7 / 11", z.similar(0, 1), 1);
        z.threshold(2, 3);
        due("similar, 7 of 11 at 2 / 3", z.similar(0, 1), 0);
        z.threshold(5, 8);
        due("similar, 7 of 11 at 5 / 8", z.similar(0, 1), 1);
    }

    private static void pairs() {
        promise = 15;
        SimilarityJoin x = with(set(0, 1), set(5), set(0, 1, 2), set(5), set(5));
        due("pairs()", x.pairs(), 4);
        x.threshold(1, 1);
        due("pairs() at 1", x.pairs(), 3);
        x.remove(1);
        due("pairs() after a remove", x.pairs(), 1);
        SimilarityJoin y = with(set(3));
        due("pairs() of one record", y.pairs(), 0);
        y.recall(0);
        for (int i = 1; i < 20; i++) {
            y.store();
        }
        due("pairs() of 20 equal records", y.pairs(), 190);
    }

    private static void degree() {
        promise = 16;
        SimilarityJoin x = with(set(0, 1), set(5), set(0, 1, 2), set(5), set(5));
        due("degree(0)", x.degree(0), 1);
        due("degree(1)", x.degree(1), 2);
        due("degree(4)", x.degree(4), 2);
        x.threshold(1, 1);
        due("degree(0) at 1", x.degree(0), 0);
        due("degree(5)", x.degree(5), -1);
        due("degree(-1)", x.degree(-1), -1);
        due("degree(LOW)", x.degree(LOW), -1);
        due("degree(HIGH)", x.degree(HIGH), -1);
        for (int i = 0; i < 20; i++) {
            x.recall(1);
            x.store();
        }
        due("degree(19)", x.degree(19), 17);
    }

    private static void partner() {
        promise = 17;
        SimilarityJoin x = with(set(5), set(0, 1), set(5), set(5, 6), set(5));
        due("partner(2, 0)", x.partner(2, 0), 0);
        due("partner(2, 1), not itself", x.partner(2, 1), 3);
        due("partner(2, 2)", x.partner(2, 2), 4);
        due("partner(2, 3)", x.partner(2, 3), -2);
        due("partner(0, 0)", x.partner(0, 0), 2);
        due("partner(4, 2)", x.partner(4, 2), 3);
        due("partner(1, 0)", x.partner(1, 0), -2);
        due("partner(2, -1)", x.partner(2, -1), -2);
        due("partner(2, LOW)", x.partner(2, LOW), -2);
        due("partner(2, HIGH)", x.partner(2, HIGH), -2);
        due("partner(5, 0)", x.partner(5, 0), -1);
        due("partner(-1, -1), both wrong", x.partner(-1, -1), -1);
        due("partner(HIGH, 0)", x.partner(HIGH, 0), -1);
        x.threshold(1, 1);
        due("partner(2, 1) at 1", x.partner(2, 1), 4);
    }

    private static void nearest() {
        promise = 18;
        SimilarityJoin x = with(set(0, 1, 2), set(9), set(0, 1), set(0, 1, 2, 3), set(0));
        // Shares with record 0: 0, 2/3, 3/4, 1/3.
        due("nearest(0)", x.nearest(0), 3);
        // Shares with record 2: 2/3, 0, 2/4, 1/2.
        due("nearest(2)", x.nearest(2), 0);
        due("nearest(4)", x.nearest(4), 2);
        due("nearest(1), all shares 0", x.nearest(1), 0);
        x.threshold(1, 1);
        due("nearest(0), whatever the threshold", x.nearest(0), 3);
        due("nearest(5)", x.nearest(5), -1);
        due("nearest(-1)", x.nearest(-1), -1);
        due("nearest(LOW)", x.nearest(LOW), -1);
        due("nearest(HIGH)", x.nearest(HIGH), -1);

        SimilarityJoin y = with(set(9), set(7));
        due("nearest(0), share 0", y.nearest(0), 1);
        y.remove(1);
        due("nearest(0) of one record", y.nearest(0), -2);
        due("nearest(1) of one record", y.nearest(1), -1);

        // 2/4 and 3/6 are equal: the least number.
        SimilarityJoin z = with(set(0, 1, 2, 3), set(0, 1, 2, 10, 11), set(0, 1));
        due("nearest(0), 3/6 before 2/4", z.nearest(0), 1);
        // More common tokens, yet a lesser share.
        SimilarityJoin w = with(span(0, 3), span(1, 12), set(0, 1));
        due("nearest(0), 3/13 before 2/4", w.nearest(0), 2);
        // 9/15 = 0.600 and 7/12 = 0.583 differ by little.
        SimilarityJoin v = with(span(0, 11), span(0, 6), concat(span(0, 8), span(20, 22)));
        due("nearest(0), 7/12 before 9/15", v.nearest(0), 2);
    }

    private static int[] concat(int[] a, int[] b) {
        int[] all = java.util.Arrays.copyOf(a, a.length + b.length);
        System.arraycopy(b, 0, all, a.length, b.length);
        return all;
    }

    private static void matches() {
        promise = 19;
        SimilarityJoin x = with(set(0, 1), set(5), set(0, 1, 2), set(0, 1));
        due("matches() of an empty draft", x.matches(), 0);
        draft(x, 0, 1);
        due("matches()", x.matches(), 3);
        x.threshold(1, 1);
        due("matches() at 1", x.matches(), 2);
        draft(x, 20);
        x.threshold(1, 12);
        due("matches() of none", x.matches(), 0);
        x.clear();
        due("matches() of an empty draft at 1 / 12", x.matches(), 0);
    }

    private static void match() {
        promise = 20;
        SimilarityJoin x = with(set(5), set(0, 1), set(5), set(0, 1, 2));
        due("match(0) of an empty draft", x.match(0), -2);
        draft(x, 0, 1);
        due("match(0)", x.match(0), 1);
        due("match(1)", x.match(1), 1);
        due("match(2)", x.match(2), 3);
        due("match(3)", x.match(3), 3);
        due("match(4), no such record", x.match(4), -2);
        due("match(19), no such record", x.match(19), -2);
        due("match(20)", x.match(20), -1);
        due("match(-1)", x.match(-1), -1);
        due("match(LOW)", x.match(LOW), -1);
        due("match(HIGH)", x.match(HIGH), -1);
        x.threshold(1, 1);
        due("match(2) at 1", x.match(2), -2);
        for (int r = 4; r < 20; r++) {
            x.store();
        }
        due("match(19) of 20", x.match(19), 19);
        x.remove(19);
        due("match(19) of 19", x.match(19), -2);
    }

    private static void containing() {
        promise = 21;
        SimilarityJoin x = with(set(0, 1), set(1, 2, 29), set(0, 1, 2, 29), set(7));
        due("containing() of an empty draft", x.containing(), 4);
        draft(x, 1);
        due("containing() of 1", x.containing(), 3);
        draft(x, 1, 29);
        due("containing() of 1 29", x.containing(), 2);
        draft(x, 0, 1, 2, 29);
        due("containing() of a whole record", x.containing(), 1);
        draft(x, 0, 7);
        due("containing() of none", x.containing(), 0);
        draft(x, 1);
        x.threshold(1, 1);
        due("containing(), whatever the threshold", x.containing(), 3);
    }

    private static void groups() {
        promise = 22;
        SimilarityJoin x = with(set(3, 4), set(0, 1), set(2, 3), set(9), set(1, 2));
        due("groups() at 1 / 2", x.groups(), 5);
        x.threshold(1, 3);
        due("groups() at 1 / 3, a chain 1 4 2 0", x.groups(), 2);
        x.remove(4);
        due("groups() of the broken chain", x.groups(), 3);
        for (int r = 0; r < 4; r++) {
            x.remove(0);
        }
        due("groups() of none", x.groups(), 0);
    }

    private static void groupOf() {
        promise = 23;
        SimilarityJoin x = with(set(9), set(3, 4), set(0, 1), set(2, 3), set(1, 2));
        due("groupOf(4) at 1 / 2", x.groupOf(4), 4);
        x.threshold(1, 3);
        due("groupOf(0)", x.groupOf(0), 0);
        due("groupOf(1)", x.groupOf(1), 1);
        due("groupOf(2), by a chain", x.groupOf(2), 1);
        due("groupOf(3)", x.groupOf(3), 1);
        due("groupOf(4)", x.groupOf(4), 1);
        x.remove(4);
        due("groupOf(2) after the chain broke", x.groupOf(2), 2);
        due("groupOf(4)", x.groupOf(4), -1);
        due("groupOf(-1)", x.groupOf(-1), -1);
        due("groupOf(LOW)", x.groupOf(LOW), -1);
        due("groupOf(HIGH)", x.groupOf(HIGH), -1);
    }

    private static void groupSize() {
        promise = 24;
        SimilarityJoin x = with(set(9), set(3, 4), set(0, 1), set(2, 3), set(1, 2));
        due("groupSize(4) at 1 / 2", x.groupSize(4), 1);
        x.threshold(1, 3);
        due("groupSize(0)", x.groupSize(0), 1);
        due("groupSize(1)", x.groupSize(1), 4);
        due("groupSize(2)", x.groupSize(2), 4);
        x.remove(4);
        due("groupSize(1) after the chain broke", x.groupSize(1), 2);
        due("groupSize(2) after the chain broke", x.groupSize(2), 1);
        due("groupSize(4)", x.groupSize(4), -1);
        due("groupSize(-1)", x.groupSize(-1), -1);
        due("groupSize(LOW)", x.groupSize(LOW), -1);
        due("groupSize(HIGH)", x.groupSize(HIGH), -1);
    }

    /** The longest chain there can be, from whose ends all 20 records must be reached. */
    private static void longChain() {
        int[] order = {7, 0, 13, 2, 19, 5, 11, 3, 17, 1, 9, 15, 4, 18, 6, 12, 8, 16, 10, 14};
        int[][] chain = new int[20][];
        for (int place = 0; place < 20; place++) {
            chain[order[place]] = set(place, place + 1);
        }
        SimilarityJoin x = with(chain);
        x.threshold(1, 3);
        promise = 22;
        due("groups() of a chain of 20", x.groups(), 1);
        promise = 23;
        due("groupOf(14), the chain's end", x.groupOf(14), 0);
        due("groupOf(7), the chain's start", x.groupOf(7), 0);
        promise = 24;
        due("groupSize(14), the chain's end", x.groupSize(14), 20);
        due("groupSize(7), the chain's start", x.groupSize(7), 20);
        promise = 15;
        due("pairs() of a chain of 20", x.pairs(), 19);
    }

    public static void main(String[] args) {
        newObject();
        token();
        drop();
        clear();
        recall();
        store();
        remove();
        threshold();
        records();
        size();
        has();
        frequency();
        common();
        similar();
        pairs();
        degree();
        partner();
        nearest();
        matches();
        match();
        containing();
        groups();
        groupOf();
        groupSize();
        longChain();
        System.out.println(wrong == 0 ? "all answers are as due" : wrong + " answers are not as due");
        if (wrong != 0) {
            System.exit(1);
        }
    }
}
