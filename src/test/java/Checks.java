/** Counts what a test looked at, and tells what was not as due. */
final class Checks {
    private final String name;
    private int passed;
    private int failed;

    Checks(String name) {
        this.name = name;
    }

    void due(String what, long got, long want) {
        if (got == want) {
            passed++;
            return;
        }
        failed++;
        if (failed <= 50) {
            System.out.println(name + ": " + what + " answered " + got + ", due is " + want);
        }
    }

    void holds(String what, boolean so) {
        due(what, so ? 1 : 0, 1);
    }

    boolean anyFailed() {
        return failed > 0;
    }

    void end() {
        System.out.println(name + ": " + passed + " passed, " + failed + " failed");
        if (failed > 0) {
            System.exit(1);
        }
    }
}
