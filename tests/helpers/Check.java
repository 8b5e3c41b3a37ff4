/** Counts what is not as due within one case after the other. */
final class Check {
    private int wrong = 0;
    private int failed = 0;
    private String name = "";

    void begin(String caseName) {
        name = caseName;
        wrong = 0;
    }

    void due(String call, long got, long want) {
        if (got != want) {
            wrong++;
            System.out.println("  " + name + ": " + call + " answered " + got + ", due is " + want);
        }
    }

    void holds(String what, boolean so) {
        if (!so) {
            wrong++;
            System.out.println("  " + name + ": not so: " + what);
        }
    }

    void end() {
        System.out.println((wrong == 0 ? "ok: " : "FAILED: ") + name);
        failed += wrong == 0 ? 0 : 1;
    }

    void close() {
        if (failed > 0) {
            System.exit(1);
        }
    }
}
