import java.util.Map;

/** Counts the answers that are not the ones that are due, and prints them. */
final class Check {
    private String sentence = "";
    private int sentences;
    private int lookedBefore;
    private int wrongBefore;
    private int looked;
    private int wrong;

    /** The answers that follow test these words of the document. */
    void sentence(String words) {
        endSentence();
        sentence = words;
        sentences++;
    }

    void due(String call, long got, long want) {
        looked++;
        if (got != want) {
            complain(call + " answered " + got + ", due is " + want);
        }
    }

    void holds(String claim, boolean it) {
        due(claim, it ? 1 : 0, 1);
    }

    /** The answers of many calls at once, as State tells them. */
    void same(String when, Map<String, Integer> got, Map<String, Integer> want) {
        holds("the same calls are compared " + when, got.keySet().equals(want.keySet()));
        for (String call : want.keySet()) {
            due(call + " " + when, got.get(call), want.get(call));
        }
    }

    void end() {
        endSentence();
        System.out.println(wrong + " of " + looked + " answers are not as due, " + sentences + " sentences tested");
        if (wrong != 0 || looked == 0) {
            System.exit(1);
        }
    }

    // A sentence that nothing was looked at for is not tested.
    private void endSentence() {
        if (sentences > 0 && looked == lookedBefore) {
            complain("nothing was looked at");
        }
        lookedBefore = looked;
        wrongBefore = wrong;
    }

    private void complain(String what) {
        wrong++;
        // A fault in the program can spoil thousands of answers alike.
        if (wrong <= wrongBefore + 8) {
            System.out.println("\"" + sentence + "\": " + what);
        }
    }
}
