/** Counts the answers of one test that are not the ones that are due. */
final class Due {
    private int wrong = 0;
    private int asked = 0;
    private int sentences = 0;
    private int askedBefore = 0;
    private String sentence = "";

    /** Begins the test of one sentence of the document: a wrong answer is told with it. */
    void sentence(String where, String words) {
        endSentence();
        sentences++;
        sentence = where + " '" + words + "': ";
    }

    private void endSentence() {
        if (sentences > 0 && asked == askedBefore) {
            wrong++;
            System.out.println(sentence + "nothing was asked");
        }
        askedBefore = asked;
    }

    void is(String call, long want, long got) {
        asked++;
        if (got != want) {
            wrong++;
            System.out.println(sentence + call + " answered " + got + ", due is " + want);
        }
    }

    void yes(String call, boolean got) {
        is(call, 1, got ? 1 : 0);
    }

    void no(String call, boolean got) {
        is(call, 0, got ? 1 : 0);
    }

    void same(String call, String want, String got) {
        asked++;
        if (!got.equals(want)) {
            wrong++;
            System.out.println(sentence + call + " left" + System.lineSeparator() + got + "due is"
                    + System.lineSeparator() + want);
        }
    }

    /** Ends the test: exit code 1 if an answer was wrong, or if nothing was asked. */
    void end() {
        endSentence();
        String of = sentences > 0 ? sentences + " sentences, " : "";
        System.out.println(of + asked + " answers, " + wrong + " not as due");
        if (wrong != 0 || asked == 0) {
            System.exit(1);
        }
    }
}
