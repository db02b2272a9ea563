/** Counts and prints the calls whose answer is not the one that is due. */
final class Expect {
    private int wrong = 0;

    void due(String call, long got, long want) {
        if (got != want) {
            wrong++;
            System.out.println(call + " answered " + got + ", due is " + want);
        }
    }

    void holds(String claim, boolean truth) {
        if (!truth) {
            wrong++;
            System.out.println("does not hold: " + claim);
        }
    }

    boolean anyWrong() {
        return wrong != 0;
    }

    void finish() {
        System.out.println(wrong == 0 ? "all as due" : wrong + " not as due");
        if (wrong != 0) {
            System.exit(1);
        }
    }
}
