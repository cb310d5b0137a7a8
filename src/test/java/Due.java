/** Counts the answers that are not as due, and ends the test with exit code 1 if there was one. */
final class Due {
    private int wrong = 0;
    private int looked = 0;
    private int sentences = 0;
    private int lookedBefore = 0;
    private String sentence = "";

    /** All answers from here to the next sentence are asked for by these words of the document. */
    void sentence(String words) {
        endSentence();
        sentence = words;
        sentences++;
        lookedBefore = looked;
    }

    void is(String call, long got, long want) {
        looked++;
        if (got != want) {
            wrong++;
            String asked = sentence.isEmpty() ? "" : " (\"" + sentence + "\")";
            System.out.println(call + " answered " + got + ", due is " + want + asked);
        }
    }

    void same(String what, long[] got, long[] want) {
        is(what + ": how many", got.length, want.length);
        for (int i = 0; i < got.length && i < want.length; i++) {
            is(what + ": number " + i, got[i], want[i]);
        }
    }

    int wrongSoFar() {
        return wrong;
    }

    /** A sentence by which no answer was looked at is not tested. */
    private void endSentence() {
        if (sentences > 0 && looked == lookedBefore) {
            wrong++;
            System.out.println("no answer was looked at: \"" + sentence + "\"");
        }
    }

    void end() {
        endSentence();
        String told = sentences == 0 ? "" : " by " + sentences + " sentences";
        System.out.println(looked + " answers" + told + ", " + wrong + " not as due");
        if (wrong != 0 || looked == 0) {
            System.exit(1);
        }
    }
}
