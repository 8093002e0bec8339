import java.util.TreeSet;

/** Sets of tokens, and numbers outside a range, for the tests. */
final class Numbers {
    static final int LOW = Integer.MIN_VALUE;
    static final int HIGH = Integer.MAX_VALUE;

    /** Twelve tokens each: the least, the greatest, and spread over all. */
    static final int[][] TWELVES = {
        span(0, 11),
        span(18, 29),
        {0, 2, 5, 7, 10, 13, 15, 16, 20, 23, 28, 29},
    };

    private Numbers() {
    }

    static int[] set(int... tokens) {
        return tokens;
    }

    /** The numbers first .. last, none if last is less than first. */
    static int[] span(int first, int last) {
        int[] all = new int[Math.max(0, last - first + 1)];
        for (int i = 0; i < all.length; i++) {
            all[i] = first + i;
        }
        return all;
    }

    static boolean isAmong(int number, int... all) {
        for (int one : all) {
            if (one == number) {
                return true;
            }
        }
        return false;
    }

    /** The tokens 0 .. 29 that are not among these. */
    static int[] others(int... tokens) {
        TreeSet<Integer> found = new TreeSet<>();
        for (int token = 0; token < 30; token++) {
            if (!isAmong(token, tokens)) {
                found.add(token);
            }
        }
        return arrayOf(found);
    }

    /**
     * Numbers that are not in least .. most (a range that may be empty): those next to it, the
     * least and the greatest int, and those that would seem to be in it if only some of their
     * bits were looked at.
     */
    static int[] outside(int least, int most) {
        TreeSet<Integer> found = new TreeSet<>();
        int[] shifts = {0, 32, 64, 256, 65536, -32, -64, -256, -65536, LOW};
        for (int shift : shifts) {
            found.add(shift + least);
            found.add(shift + most);
            found.add(shift + least - 1);
            found.add(shift + most + 1);
        }
        found.add(-1);
        found.add(-most);
        found.add(LOW);
        found.add(LOW + 1);
        found.add(HIGH - 1);
        found.add(HIGH);
        found.removeIf(number -> number >= least && number <= most);
        return arrayOf(found);
    }

    /** Fewer of them: those next to the range, and the least and the greatest int. */
    static int[] fewOutside(int least, int most) {
        return new int[] {LOW, least - 1, most + 1, HIGH};
    }

    private static int[] arrayOf(TreeSet<Integer> numbers) {
        return numbers.stream().mapToInt(Integer::intValue).toArray();
    }
}
