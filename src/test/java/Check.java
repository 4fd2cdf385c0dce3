/** Counts wrong answers of a test and ends it. */
final class Check {
    private static final int TOLD = 40;
    private int asked = 0;
    private int wrong = 0;

    void due(String call, long got, long want) {
        asked++;
        if (got != want) {
            wrong++;
            if (wrong <= TOLD) {
                System.out.println(call + " answered " + got + ", due is " + want);
            }
        }
    }

    /** The register holds this number. */
    void holds(PlaneWholes x, String call, int r, long a, long b) {
        due(call + ", get(" + r + ", 0)", x.get(r, 0), a);
        due(call + ", get(" + r + ", 1)", x.get(r, 1), b);
    }

    void end() {
        System.out.println(asked + " answers, " + wrong + " wrong");
        if (wrong != 0) {
            System.exit(1);
        }
    }
}
