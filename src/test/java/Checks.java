/** Sets answers beside those that are due, and tells of each that is not. */
final class Checks {
    private final String name;
    private int passed = 0;
    private int failed = 0;
    private int promise = 0;

    Checks(String name) { this.name = name; }

    /** The promise to which the next answers belong. */
    void promise(int number) { promise = number; }

    void due(String call, long got, long want) {
        if (got == want) {
            passed++;
            return;
        }
        failed++;
        String of = promise == 0 ? "" : ", promise " + promise;
        System.out.println(name + of + ": " + call + " answered " + got + ", due is " + want);
    }

    void end() {
        System.out.println(name + ": " + passed + " answers are as due, " + failed + " are not");
        if (failed != 0) System.exit(1);
    }

    static void tell(ElectingWind x, int text, String bytes) {
        x.wipe(text);
        for (char b : bytes.toCharArray()) x.type(text, b);
    }

    static ElectingWind told(String corner, String gusts, String candidates) {
        ElectingWind x = new ElectingWind();
        tell(x, 0, corner);
        tell(x, 1, gusts);
        tell(x, 2, candidates);
        return x;
    }
}
