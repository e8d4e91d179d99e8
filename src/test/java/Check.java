/** Compares answers with those that are due, and ends a test with exit code 1 if one differs. */
final class Check {
    private static int wrong = 0;
    private static int done = 0;
    private static int sentences = 0;
    private static int doneBefore = 0;
    private static String sentence = "";

    private Check() {
    }

    /** The sentence of the document that the following answers are about, word by word. */
    static void sentence(String words) {
        endSentence();
        sentences++;
        sentence = words;
        doneBefore = done;
        // Only told: what the document says in other words may be the same still.
        if (!Document.says(words)) {
            System.out.println("the document does not say: " + words);
        }
    }

    private static void endSentence() {
        if (!sentence.isEmpty() && done == doneBefore) {
            wrong++;
            System.out.println("nothing was asked about: " + sentence);
        }
    }

    static void due(String call, long got, long want) {
        done++;
        if (got != want) {
            wrong++;
            if (wrong <= 50) {
                String about = sentence.isEmpty() ? "" : "\"" + sentence + "\": ";
                System.out.println(about + call + " answered " + got + ", due is " + want);
            }
        }
    }

    static void due(String call, boolean got, boolean want) {
        due(call, got ? 1 : 0, want ? 1 : 0);
    }

    static void finish(String test) {
        endSentence();
        String about = sentences == 0 ? "" : sentences + " sentences, ";
        System.out.println(test + ": " + about + done + " answers, " + wrong + " not as due");
        if (wrong != 0 || done == 0) {
            System.exit(1);
        }
    }
}
