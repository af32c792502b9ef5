/** Runs tests by name, counts the answers that are not the ones that are due, and prints each. */
public final class Check {
    private String test = "";
    private int calls = 0;
    private int wrong = 0;

    /** A test that looks at nothing, or in which a call throws, has failed too. */
    public void run(String name, Runnable body) {
        test = name + ": ";
        int before = calls;
        try {
            body.run();
        } catch (RuntimeException | Error thrown) {
            wrong++;
            System.out.println(test + "threw " + thrown);
        }
        if (calls == before) {
            wrong++;
            System.out.println(test + "no answer was looked at");
        }
        test = "";
    }

    public void due(String call, long got, long want) {
        calls++;
        if (got != want) {
            wrong++;
            System.out.println(test + call + " answered " + got + ", due is " + want);
        }
    }

    public void due(String call, boolean got, boolean want) {
        due(call, got ? 1 : 0, want ? 1 : 0);
    }

    /** Ends the program: exit code 1 if an answer was wrong, or if none was looked at. */
    public void end() {
        System.out.println(calls + " answers looked at, " + wrong + " not as due");
        System.exit(wrong == 0 && calls > 0 ? 0 : 1);
    }
}
