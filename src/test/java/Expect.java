import java.util.List;

/** Counts and prints the calls whose answer is not the one that is due. */
final class Expect {
    private int wrong = 0;
    private String sentence = "";

    /** Runs all tests, also those behind one in which a call throws, which none may. */
    void run(Runnable... tests) {
        for (Runnable test : tests) {
            try {
                test.run();
            } catch (RuntimeException thrown) {
                tell("a call threw " + thrown + " at " + thrown.getStackTrace()[0]);
            }
        }
        finish();
    }

    /** Says which words of the document the calls from here on hold to; place is a promise or a section. */
    void sentence(String place, String words) {
        sentence = place + " \"" + words + "\": ";
    }

    void due(String call, long got, long want) {
        if (got != want) {
            tell(call + " answered " + got + ", due is " + want);
        }
    }

    void holds(String claim, boolean truth) {
        if (!truth) {
            tell("does not hold: " + claim);
        }
    }

    /** Two lists of answers, of which only the first difference is told. */
    void same(String run, List<String> got, List<String> want) {
        for (int i = 0; i < want.size(); i++) {
            if (!got.get(i).equals(want.get(i))) {
                tell(run + ", then " + got.get(i) + ", due is " + want.get(i));
                return;
            }
        }
    }

    boolean anyWrong() {
        return wrong != 0;
    }

    void finish() {
        System.out.println(wrong == 0 ? "all as due" : wrong + " not as due");
        if (wrong != 0) {
            System.exit(1);
        }
    }

    private void tell(String what) {
        wrong++;
        System.out.println(sentence + what);
    }
}
