/** Counts the answers that are not as due; a test ends with close(). */
final class Expect {
    static final int BEYOND = -1000001;
    static final int FULL = -1000002;
    static final int KIND = -1000003;
    static final int NONE = -1000004;
    static final int STATE = -1000005;
    static final int MISSING = -1000006;
    static final int SIZE = -1000007;

    static final int[] WILD = {
        Integer.MIN_VALUE, -1000001, -2, -1, 0, 1, 7, 8, 41, 64, 10000, Integer.MAX_VALUE};

    private final String test;
    private int asked = 0;
    private int wrong = 0;

    Expect(String test) {
        this.test = test;
    }

    void due(String call, long want, long got) {
        asked++;
        if (want != got) {
            wrong++;
            System.out.println(test + ": " + call + " answered " + got + ", due is " + want);
        }
    }

    void close() {
        System.out.println(test + ": " + (asked - wrong) + " answers as due, " + wrong + " not");
        if (wrong > 0 || asked == 0) {
            System.exit(1);
        }
    }
}
