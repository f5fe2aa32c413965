/** Counts answers that are as due, prints those that are not. */
final class Check {
    private final String program;
    private int passed;
    private int failed;
    private String part = "";

    Check(String program) {
        this.program = program;
    }

    void part(String name) {
        part = name;
    }

    void due(String call, long got, long want) {
        if (got == want) {
            passed++;
        } else {
            failed++;
            System.out.println(part + ": " + call + " answered " + got + ", due is " + want);
        }
    }

    void holds(String what, boolean so) {
        due(what, so ? 1 : 0, 1);
    }

    boolean anyFailed() {
        return failed > 0;
    }

    /** Prints how many passed and failed; ends with exit code 1 if one failed. */
    void end() {
        System.out.println(program + ": " + passed + " passed, " + failed + " failed");
        if (failed > 0) {
            System.exit(1);
        }
    }
}
