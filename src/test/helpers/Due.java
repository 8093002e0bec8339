/** Counts and prints what is not as due, with the sentence of the document that asks for it. */
final class Due {
    private static final int MOST_PRINTED = 10;

    private static String sentence = "";
    private static int tests = 0;
    private static int wrongHere = 0;
    private static int broken = 0;

    private Due() {
    }

    static String sentence() {
        return sentence;
    }

    /** Runs a test of one sentence. */
    static void sentence(String words, Runnable test) {
        sentence = words;
        tests++;
        wrongHere = 0;
        try {
            test.run();
        } catch (RuntimeException thrown) {
            // No call may throw; caught here so that the other sentences are still tested.
            wrongHere++;
            System.out.println(words + ": " + thrown + " at " + thrown.getStackTrace()[0]);
        }
        if (wrongHere > 0) {
            broken++;
            System.out.println("DOES NOT HOLD (" + wrongHere + " not as due): " + words);
        }
    }

    static void same(String what, Object got, Object want) {
        if (got.equals(want)) {
            return;
        }
        wrongHere++;
        if (wrongHere <= MOST_PRINTED) {
            System.out.println(sentence + ": " + what + " answered " + got + ", due is " + want);
        }
    }

    /** To be called last: ends the program, with code 1 if a sentence does not hold. */
    static void end() {
        System.out.println(tests + " tests of sentences, " + broken + " fail");
        System.exit(broken == 0 ? 0 : 1);
    }
}
