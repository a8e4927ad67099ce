/** Counts the answers that are not the ones that are due, and prints them. */
final class Check {
    private int looked;
    private int wrong;

    void due(String call, long got, long want) {
        looked++;
        if (got != want) {
            wrong++;
            // A fault in the program can spoil thousands of answers alike.
            if (wrong <= 20) {
                System.out.println(call + " answered " + got + ", due is " + want);
            }
        }
    }

    void holds(String claim, boolean it) {
        due(claim, it ? 1 : 0, 1);
    }

    void end() {
        System.out.println(wrong + " of " + looked + " answers are not as due");
        if (wrong != 0 || looked == 0) {
            System.exit(1);
        }
    }
}
