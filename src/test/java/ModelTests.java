import java.util.ArrayList;
import java.util.List;
import java.util.TreeSet;

/**
 * Long mixed runs of calls, each of at most 512 calls, against a second, slower
 * telling of the document with the Java library's sets. The runs are drawn from
 * a fixed sequence of numbers, so they are the same every time.
 */
public final class ModelTests {
    private static final int RUNS = 500;
    private static final int CALLS = 512;
    /** The least common multiple of 1 .. 24, so that every share is a whole number of its parts. */
    private static final long SHARE_PARTS = 5354228880L;

    private static final class Model {
        final List<TreeSet<Integer>> records = new ArrayList<>();
        TreeSet<Integer> draft = new TreeSet<>();
        int t = 1;
        int u = 2;

        boolean good(int which) {
            return which >= 0 && which < records.size();
        }

        static boolean badToken(int token) {
            return token < 0 || token > 29;
        }

        static int common(TreeSet<Integer> a, TreeSet<Integer> b) {
            TreeSet<Integer> both = new TreeSet<>(a);
            both.retainAll(b);
            return both.size();
        }

        static int union(TreeSet<Integer> a, TreeSet<Integer> b) {
            TreeSet<Integer> all = new TreeSet<>(a);
            all.addAll(b);
            return all.size();
        }

        boolean similar(TreeSet<Integer> a, TreeSet<Integer> b) {
            return u * common(a, b) >= t * union(a, b);
        }

        int token(int token) {
            if (badToken(token)) return -1;
            if (draft.size() == 12 && !draft.contains(token)) return -2;
            draft.add(token);
            return draft.size();
        }

        int drop(int token) {
            if (badToken(token)) return -1;
            draft.remove(token);
            return draft.size();
        }

        int clear() {
            int had = draft.size();
            draft.clear();
            return had;
        }

        int recall(int which) {
            if (!good(which)) return -1;
            draft = new TreeSet<>(records.get(which));
            return draft.size();
        }

        int store() {
            if (draft.isEmpty()) return -1;
            if (records.size() == 20) return -2;
            records.add(new TreeSet<>(draft));
            return records.size() - 1;
        }

        int remove(int which) {
            if (!good(which)) return -1;
            records.remove(which);
            return records.size();
        }

        int threshold(int newT, int newU) {
            if (newT < 1 || newT > 12 || newU < 1 || newU > 12) return -1;
            if (newT > newU) return -2;
            t = newT;
            u = newU;
            return 0;
        }

        int size(int which) {
            return good(which) ? records.get(which).size() : -1;
        }

        int has(int which, int token) {
            if (!good(which)) return -1;
            if (badToken(token)) return -2;
            return records.get(which).contains(token) ? 1 : 0;
        }

        int frequency(int token) {
            if (badToken(token)) return -1;
            return (int) records.stream().filter(r -> r.contains(token)).count();
        }

        int common(int a, int b) {
            return good(a) && good(b) ? common(records.get(a), records.get(b)) : -1;
        }

        int similar(int a, int b) {
            if (!good(a) || !good(b)) return -1;
            return similar(records.get(a), records.get(b)) ? 1 : 0;
        }

        int pairs() {
            int found = 0;
            for (int b = 0; b < records.size(); b++) {
                for (int a = 0; a < b; a++) {
                    found += similar(a, b);
                }
            }
            return found;
        }

        List<Integer> partners(int which) {
            List<Integer> found = new ArrayList<>();
            for (int r = 0; r < records.size(); r++) {
                if (r != which && similar(which, r) == 1) found.add(r);
            }
            return found;
        }

        int degree(int which) {
            return good(which) ? partners(which).size() : -1;
        }

        int partner(int which, int i) {
            if (!good(which)) return -1;
            List<Integer> found = partners(which);
            return i >= 0 && i < found.size() ? found.get(i) : -2;
        }

        int nearest(int which) {
            if (!good(which)) return -1;
            int best = -2;
            long bestShare = -1;
            for (int r = 0; r < records.size(); r++) {
                TreeSet<Integer> a = records.get(which);
                TreeSet<Integer> b = records.get(r);
                long share = SHARE_PARTS / union(a, b) * common(a, b);
                if (r != which && share > bestShare) {
                    best = r;
                    bestShare = share;
                }
            }
            return best;
        }

        int matches() {
            return (int) records.stream().filter(r -> similar(r, draft)).count();
        }

        int match(int from) {
            if (from < 0 || from > 19) return -1;
            for (int r = from; r < records.size(); r++) {
                if (similar(records.get(r), draft)) return r;
            }
            return -2;
        }

        int containing() {
            return (int) records.stream().filter(r -> r.containsAll(draft)).count();
        }

        /** For each record the least number it is linked to: numbers sink along similar pairs until none moves. */
        int[] leasts() {
            int n = records.size();
            int[] least = new int[n];
            for (int r = 0; r < n; r++) least[r] = r;
            boolean moved = true;
            while (moved) {
                moved = false;
                for (int a = 0; a < n; a++) {
                    for (int b : partners(a)) {
                        if (least[b] < least[a]) {
                            least[a] = least[b];
                            moved = true;
                        }
                    }
                }
            }
            return least;
        }

        int groups() {
            TreeSet<Integer> different = new TreeSet<>();
            for (int least : leasts()) different.add(least);
            return different.size();
        }

        int groupOf(int which) {
            return good(which) ? leasts()[which] : -1;
        }

        int groupSize(int which) {
            if (!good(which)) return -1;
            int[] least = leasts();
            int found = 0;
            for (int other : least) {
                if (other == least[which]) found++;
            }
            return found;
        }
    }

    private static int wrong = 0;
    private static long drawn = 20261115L;

    private static int draw(int below) {
        drawn = drawn * 6364136223846793005L + 1442695040888963407L;
        return (int) ((drawn >>> 33) % below);
    }

    /** Mostly a number in 0 .. top, now and then one just outside or far outside. */
    private static int number(int top) {
        int[] outside = {-1, top + 1, top + 2, -2, 32, 64, -32, Integer.MIN_VALUE, Integer.MAX_VALUE};
        return draw(25) == 0 ? outside[draw(outside.length)] : draw(top + 1);
    }

    /** Mostly the number of a record there is. */
    private static int record(Model m) {
        return number(Math.max(0, m.records.size() - 1));
    }

    private static void due(int run, int at, String call, int got, int want) {
        if (got != want) {
            wrong++;
            if (wrong <= 50) {
                System.out.println("run " + run + ", call " + at + ": " + call
                    + " answered " + got + ", due is " + want);
            }
        }
    }

    private static void change(int run, int at, SimilarityJoin x, Model m, int topToken, int removing) {
        int kind = draw(40 + removing);
        if (kind < 20) {
            int a = number(topToken);
            due(run, at, "token(" + a + ")", x.token(a), m.token(a));
        } else if (kind < 24) {
            int a = number(topToken);
            due(run, at, "drop(" + a + ")", x.drop(a), m.drop(a));
        } else if (kind < 26) {
            due(run, at, "clear()", x.clear(), m.clear());
        } else if (kind < 28) {
            int a = record(m);
            due(run, at, "recall(" + a + ")", x.recall(a), m.recall(a));
        } else if (kind < 37) {
            due(run, at, "store()", x.store(), m.store());
        } else if (kind < 40) {
            int a = draw(20) == 0 ? number(12) : 1 + draw(12);
            int b = draw(20) == 0 ? number(12) : 1 + draw(12);
            due(run, at, "threshold(" + a + ", " + b + ")", x.threshold(a, b), m.threshold(a, b));
        } else {
            int a = record(m);
            due(run, at, "remove(" + a + ")", x.remove(a), m.remove(a));
        }
    }

    private static void ask(int run, int at, SimilarityJoin x, Model m) {
        int a = record(m);
        int b = record(m);
        int token = number(29);
        int i = number(m.records.size() < 4 ? 2 : 6);
        switch (draw(16)) {
            case 0 -> due(run, at, "records()", x.records(), m.records.size());
            case 1 -> due(run, at, "size(" + a + ")", x.size(a), m.size(a));
            case 2 -> due(run, at, "has(" + a + ", " + token + ")", x.has(a, token), m.has(a, token));
            case 3 -> due(run, at, "frequency(" + token + ")", x.frequency(token), m.frequency(token));
            case 4 -> due(run, at, "common(" + a + ", " + b + ")", x.common(a, b), m.common(a, b));
            case 5 -> due(run, at, "similar(" + a + ", " + b + ")", x.similar(a, b), m.similar(a, b));
            case 6 -> due(run, at, "pairs()", x.pairs(), m.pairs());
            case 7 -> due(run, at, "degree(" + a + ")", x.degree(a), m.degree(a));
            case 8 -> due(run, at, "partner(" + a + ", " + i + ")", x.partner(a, i), m.partner(a, i));
            case 9 -> due(run, at, "nearest(" + a + ")", x.nearest(a), m.nearest(a));
            case 10 -> due(run, at, "matches()", x.matches(), m.matches());
            case 11 -> {
                int from = draw(2) == 0 ? record(m) : number(19);
                due(run, at, "match(" + from + ")", x.match(from), m.match(from));
            }
            case 12 -> due(run, at, "containing()", x.containing(), m.containing());
            case 13 -> due(run, at, "groups()", x.groups(), m.groups());
            case 14 -> due(run, at, "groupOf(" + a + ")", x.groupOf(a), m.groupOf(a));
            default -> due(run, at, "groupSize(" + a + ")", x.groupSize(a), m.groupSize(a));
        }
    }

    public static void main(String[] args) {
        for (int run = 1; run <= RUNS; run++) {
            SimilarityJoin x = new SimilarityJoin();
            Model m = new Model();
            // Few tokens make many similar records, many tokens make chains and full drafts.
            int topToken = run % 3 == 0 ? 29 : 3 + draw(27);
            // Without removals the 20 records fill up, with many of them they stay few.
            int removing = draw(8);
            for (int at = 1; at <= CALLS; at++) {
                if (draw(2) == 0) {
                    change(run, at, x, m, topToken, removing);
                } else {
                    ask(run, at, x, m);
                }
            }
        }
        System.out.println(wrong == 0 ? "all answers are as due" : wrong + " answers are not as due");
        if (wrong != 0) {
            System.exit(1);
        }
    }
}
