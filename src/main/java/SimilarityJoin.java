/**
 * Which stored records are similar to each other, by the share of common
 * tokens, against a threshold that may be changed.
 *
 * A set of tokens is held as the bits 0 .. 29 of an int, and a set of records
 * as the bits 0 .. 19 of an int, so that the questions need no scratch array
 * and can't change anything.
 */
public final class SimilarityJoin {
    private static final int TOKENS = 30;
    private static final int MAX_TOKENS_IN_SET = 12;
    private static final int MAX_RECORDS = 20;
    private static final int MAX_THRESHOLD_PART = 12;

    private final int[] stored = new int[MAX_RECORDS];
    private int recordCount;
    private int draft;
    private int thresholdTop;
    private int thresholdBottom;

    public SimilarityJoin() {
        recordCount = 0;
        draft = 0;
        thresholdTop = 1;
        thresholdBottom = 2;
    }

    public int token(int token) {
        if (!isToken(token)) {
            return -1;
        }
        int grown = draft | (1 << token);
        int grownSize = countOf(grown);
        // A token that is in the draft already leaves it at 12 at most, so only a new one is refused.
        if (grownSize > MAX_TOKENS_IN_SET) {
            return -2;
        }
        draft = grown;
        return grownSize;
    }

    public int drop(int token) {
        if (!isToken(token)) {
            return -1;
        }
        draft = draft & ~(1 << token);
        return countOf(draft);
    }

    public int clear() {
        int before = countOf(draft);
        draft = 0;
        return before;
    }

    public int recall(int which) {
        if (!isRecord(which)) {
            return -1;
        }
        draft = stored[which];
        return countOf(draft);
    }

    public int store() {
        if (draft == 0) {
            return -1;
        }
        if (recordCount >= MAX_RECORDS) {
            return -2;
        }
        int added = recordCount;
        stored[added] = draft;
        recordCount = added + 1;
        return added;
    }

    public int remove(int which) {
        if (!isRecord(which)) {
            return -1;
        }
        for (int r = which + 1; r < recordCount; r++) {
            stored[r - 1] = stored[r];
        }
        recordCount = recordCount - 1;
        return recordCount;
    }

    public int threshold(int t, int u) {
        if (!isThresholdPart(t) || !isThresholdPart(u)) {
            return -1;
        }
        if (t > u) {
            return -2;
        }
        thresholdTop = t;
        thresholdBottom = u;
        return 0;
    }

    public int records() {
        return recordCount;
    }

    public int size(int which) {
        if (!isRecord(which)) {
            return -1;
        }
        return countOf(stored[which]);
    }

    public int has(int which, int token) {
        if (!isRecord(which)) {
            return -1;
        }
        if (!isToken(token)) {
            return -2;
        }
        return isIn(stored[which], token) ? 1 : 0;
    }

    public int frequency(int token) {
        if (!isToken(token)) {
            return -1;
        }
        int found = 0;
        for (int r = 0; r < recordCount; r++) {
            if (isIn(stored[r], token)) {
                found++;
            }
        }
        return found;
    }

    public int common(int a, int b) {
        if (!isRecord(a) || !isRecord(b)) {
            return -1;
        }
        return countOf(stored[a] & stored[b]);
    }

    public int similar(int a, int b) {
        if (!isRecord(a) || !isRecord(b)) {
            return -1;
        }
        return areSimilar(stored[a], stored[b]) ? 1 : 0;
    }

    public int pairs() {
        int found = 0;
        for (int r = 0; r < recordCount; r++) {
            int others = othersSimilarTo(r);
            found += countOf(others);
        }
        // Each pair was met once from either side.
        return found / 2;
    }

    public int degree(int which) {
        if (!isRecord(which)) {
            return -1;
        }
        int others = othersSimilarTo(which);
        return countOf(others);
    }

    public int partner(int which, int i) {
        if (!isRecord(which)) {
            return -1;
        }
        int others = othersSimilarTo(which);
        int passed = 0;
        for (int r = 0; r < recordCount; r++) {
            if (isIn(others, r)) {
                if (passed == i) {
                    return r;
                }
                passed++;
            }
        }
        return -2;
    }

    public int nearest(int which) {
        if (!isRecord(which)) {
            return -1;
        }
        int best = -2;
        int bestInBoth = 0;
        int bestInEither = 1;
        for (int r = 0; r < recordCount; r++) {
            if (r == which) {
                continue;
            }
            int inBoth = countOf(stored[which] & stored[r]);
            int inEither = countOf(stored[which] | stored[r]);
            // Multiplied crosswise, so that shares are compared without rounding;
            // an equal share leaves the lesser number standing.
            if (best < 0 || inBoth * bestInEither > bestInBoth * inEither) {
                best = r;
                bestInBoth = inBoth;
                bestInEither = inEither;
            }
        }
        return best;
    }

    public int matches() {
        int found = recordsSimilarTo(draft);
        return countOf(found);
    }

    public int match(int from) {
        if (from < 0 || from >= MAX_RECORDS) {
            return -1;
        }
        int found = recordsSimilarTo(draft);
        for (int r = from; r < recordCount; r++) {
            if (isIn(found, r)) {
                return r;
            }
        }
        return -2;
    }

    public int containing() {
        int found = 0;
        for (int r = 0; r < recordCount; r++) {
            if ((stored[r] & draft) == draft) {
                found++;
            }
        }
        return found;
    }

    public int groups() {
        int found = 0;
        int grouped = 0;
        for (int r = 0; r < recordCount; r++) {
            if (!isIn(grouped, r)) {
                found++;
                grouped = grouped | recordsLinkedTo(r);
            }
        }
        return found;
    }

    public int groupOf(int which) {
        if (!isRecord(which)) {
            return -1;
        }
        int group = recordsLinkedTo(which);
        return leastOf(group);
    }

    public int groupSize(int which) {
        if (!isRecord(which)) {
            return -1;
        }
        int group = recordsLinkedTo(which);
        return countOf(group);
    }

    private boolean isRecord(int which) {
        return which >= 0 && which < recordCount;
    }

    private static boolean isToken(int token) {
        return token >= 0 && token < TOKENS;
    }

    private static boolean isThresholdPart(int part) {
        return part >= 1 && part <= MAX_THRESHOLD_PART;
    }

    private static boolean isIn(int set, int member) {
        return ((set >> member) & 1) == 1;
    }

    // For sets of tokens and of records alike: there are more tokens than records.
    private static int countOf(int set) {
        int found = 0;
        for (int member = 0; member < TOKENS; member++) {
            found += (set >> member) & 1;
        }
        return found;
    }

    private static int leastOf(int recordSet) {
        for (int r = 0; r < MAX_RECORDS; r++) {
            if (isIn(recordSet, r)) {
                return r;
            }
        }
        return -1;
    }

    // Two empty sets come out as similar, as the document asks: 0 is at least 0.
    private boolean areSimilar(int a, int b) {
        int inBoth = countOf(a & b);
        int inEither = countOf(a | b);
        return thresholdBottom * inBoth >= thresholdTop * inEither;
    }

    private int recordsSimilarTo(int tokenSet) {
        int found = 0;
        for (int r = 0; r < recordCount; r++) {
            if (areSimilar(tokenSet, stored[r])) {
                found = found | (1 << r);
            }
        }
        return found;
    }

    private int othersSimilarTo(int which) {
        return recordsSimilarTo(stored[which]) & ~(1 << which);
    }

    // Every step spreads from one record that hasn't been spread from yet, so
    // as many steps as there are records are enough.
    private int recordsLinkedTo(int which) {
        int reached = 1 << which;
        int spread = 0;
        for (int step = 0; step < recordCount; step++) {
            int next = leastOf(reached & ~spread);
            if (next < 0) {
                break;
            }
            spread = spread | (1 << next);
            reached = reached | recordsSimilarTo(stored[next]);
        }
        return reached;
    }
}
