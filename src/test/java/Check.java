/** Compares answers with those that are due, and tells at the end whether all were. */
final class Check {
    private static String sentence = "";
    private static int askedOfSentence = 1;
    private static int asked = 0;
    private static int wrong = 0;

    private Check() {
    }

    /** What follows tests these words of the document; a sentence that nothing tests is a fault. */
    static void sentence(String words) {
        endSentence();
        sentence = words;
        askedOfSentence = 0;
    }

    static void due(String call, int got, int want) {
        asked++;
        askedOfSentence++;
        if (got != want) {
            tellWrong(call + " answered " + got + ", due is " + want);
        }
    }

    static void same(String what, String got, String want) {
        asked++;
        askedOfSentence++;
        if (!got.equals(want)) {
            tellWrong(what + ": " + got + ", due is " + want);
        }
    }

    static void end() {
        endSentence();
        System.out.println(asked + " answers, " + wrong + " not as due");
        if (wrong != 0 || asked == 0) {
            System.exit(1);
        }
    }

    private static void endSentence() {
        if (askedOfSentence == 0) {
            tellWrong("nothing was asked");
        }
    }

    private static void tellWrong(String what) {
        wrong++;
        System.out.println((sentence.isEmpty() ? "" : "\"" + sentence + "\": ") + what);
    }
}
