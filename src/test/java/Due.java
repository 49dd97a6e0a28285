import java.util.Arrays;

/** Compares answers with the ones that are due, and ends the test run. */
final class Due {
    interface Test {
        void run() throws Exception;
    }

    /** A sentence that does not hold is wrong at many places; so many of them are told. */
    private static final int TOLD = 20;

    private static int compared = 0;
    private static int wrong = 0;
    private static int sentences = 0;
    private static int wrongInSentence = 0;
    private static String sentence = "";

    private Due() {
    }

    static void due(String call, long got, long want) {
        compared++;
        if (got != want) {
            tell(call + " answered " + got + ", due is " + want);
        }
    }

    static void due(String call, boolean got, boolean want) {
        compared++;
        if (got != want) {
            tell(call + " answered " + got + ", due is " + want);
        }
    }

    /** That all that was looked at is as it was or as it must be. */
    static void same(String what, int[] got, int[] want) {
        compared++;
        if (!Arrays.equals(got, want)) {
            tell(what + " is " + Arrays.toString(got) + ", due is " + Arrays.toString(want));
        }
    }

    /**
     * The test of one sentence of the document. What is told of a wrong answer names the promise
     * and the sentence, and a test that throws or compares nothing is wrong too.
     */
    static void holds(String promise, String words, Test test) {
        int before = compared;
        sentence = promise + ", '" + words + "': ";
        sentences++;
        wrongInSentence = 0;
        try {
            test.run();
        } catch (Exception | Error thrown) {
            tell("threw " + thrown);
        }
        if (compared == before) {
            tell("nothing was compared");
        }
        if (wrongInSentence > TOLD) {
            System.out.println(sentence + (wrongInSentence - TOLD) + " more");
        }
        sentence = "";
    }

    private static void tell(String what) {
        wrong++;
        wrongInSentence++;
        if (sentence.isEmpty() || wrongInSentence <= TOLD) {
            System.out.println(sentence + what);
        }
    }

    static void end() {
        String of = sentences == 0 ? "" : " of " + sentences + " sentences";
        System.out.println(compared + " answers" + of + " compared, " + wrong + " not as due");
        if (wrong != 0 || compared == 0) {
            System.exit(1);
        }
    }
}
