/** Counts what is not as it is due, and tells it. */
final class Check {
    private static int calls = 0;
    private static int wrong = 0;

    private Check() {
    }

    static void due(String what, long got, long want) {
        calls++;
        if (got != want) {
            wrong++;
            System.out.println("  " + what + " answered " + got + ", due is " + want);
        }
    }

    static void holds(String what, boolean so) {
        calls++;
        if (!so) {
            wrong++;
            System.out.println("  not so: " + what);
        }
    }

    static int calls() {
        return calls;
    }

    /** Ends the run: with exit code 1 if anything was not as due, or nothing was looked at. */
    static void end(String name) {
        System.out.println(name + ": " + calls + " looked at, " + wrong + " not as due");
        if (wrong != 0 || calls == 0) {
            System.exit(1);
        }
    }
}
