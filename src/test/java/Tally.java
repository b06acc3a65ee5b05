/** Counts what passed and what failed in one test program, and ends it. */
final class Tally {
    private static final int MOST_PRINTED = 40;

    private final String name;
    private int passed;
    private int failed;

    Tally(String name) {
        this.name = name;
    }

    void check(boolean holds, String whatIfNot) {
        if (holds) {
            passed++;
            return;
        }
        failed++;
        if (failed <= MOST_PRINTED) {
            System.out.println(name + ": " + whatIfNot);
        }
    }

    int failures() {
        return failed;
    }

    void end() {
        System.out.println(name + ": " + passed + " checks hold, " + failed + " do not");
        if (failed != 0 || passed == 0) {
            System.exit(1);
        }
    }
}
