package support;

/** Counts the answers that are not the ones that are due, and prints each. */
public final class Check {
    private int calls = 0;
    private int wrong = 0;

    public void due(String call, long got, long want) {
        calls++;
        if (got != want) {
            wrong++;
            System.out.println(call + " answered " + got + ", due is " + want);
        }
    }

    public void due(String call, boolean got, boolean want) {
        due(call, got ? 1 : 0, want ? 1 : 0);
    }

    /** Ends the program: exit code 1 if an answer was wrong, or if none was looked at. */
    public void end() {
        System.out.println(calls + " answers looked at, " + wrong + " not as due");
        System.exit(wrong == 0 && calls > 0 ? 0 : 1);
    }
}
