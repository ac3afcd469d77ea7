/** The edges of some promises: the last that is allowed, the first that is not, each finding in its turn. */
abstract class Edges {
    static final int LOW = Checks.LOW;
    static final long LONG_LOW = Checks.LONG_LOW;
    static final int BEYOND = Checks.BEYOND;
    static final int FULL = Checks.FULL;
    static final int KIND = Checks.KIND;
    static final int NONE = Checks.NONE;
    static final int STATE = Checks.STATE;
    static final int MISSING = Checks.MISSING;
    static final int SIZE = Checks.SIZE;
    static final Run NEW = Starts.NEW;
    static final Run OFFICE = Starts.OFFICE;

    abstract void run();

    static void promise(int number) {
        Checks.promise(number);
    }

    static int bits(int... places) {
        return Checks.bits(places);
    }

    static void due(Run start, String call, long want) {
        Checks.due(start, call, want);
    }

    static void row(Run start, Object... callsAndAnswers) {
        Checks.row(start, callsAndAnswers);
    }

    static void refused(Run start, String call, int k) {
        Checks.refused(start, call, k);
    }

    static void edges(Run start, String name, String fine, String ranges) {
        Checks.edges(start, name, fine, ranges);
    }
}
