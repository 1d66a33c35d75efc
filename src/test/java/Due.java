/** Counts the answers of one test that are not the ones that are due. */
final class Due {
    private int wrong = 0;
    private int asked = 0;
    private int sentences = 0;
    private String sentence = "";

    /** Runs the test of one sentence of the document: what goes wrong in it is told with the sentence. */
    void sentence(String where, String words, Runnable test) {
        int askedBefore = asked;
        sentences++;
        sentence = where + " '" + words + "': ";
        try {
            test.run();
        } catch (RuntimeException thrown) {
            fail("threw " + thrown);
        }
        if (asked == askedBefore) {
            fail("nothing was asked");
        }
        sentence = "";
    }

    private void fail(String what) {
        wrong++;
        System.out.println(sentence + what);
    }

    void is(String call, long want, long got) {
        asked++;
        if (got != want) {
            fail(call + " answered " + got + ", due is " + want);
        }
    }

    void yes(String call, boolean got) {
        is(call, 1, got ? 1 : 0);
    }

    void no(String call, boolean got) {
        is(call, 0, got ? 1 : 0);
    }

    void same(String call, String want, String got) {
        asked++;
        if (!got.equals(want)) {
            String newLine = System.lineSeparator();
            fail(call + " left" + newLine + got + "due is" + newLine + want);
        }
    }

    /** Ends the test: exit code 1 if an answer was wrong, or if nothing was asked. */
    void end() {
        String of = sentences > 0 ? sentences + " sentences, " : "";
        System.out.println(of + asked + " answers, " + wrong + " not as due");
        if (wrong != 0 || asked == 0) {
            System.exit(1);
        }
    }
}
