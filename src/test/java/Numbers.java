/** The numbers that statements, patterns and fillings are written as. */
final class Numbers {
    static final int OPEN = 8;
    /** Entries for the variables 0 .. 3. */
    static final int A = 8;
    static final int B = 9;
    static final int C = 10;
    static final int D = 11;
    static final int ALL_OPEN = 6560;
    static final int SAME = 0;
    static final int DIFFERENT = 1;
    static final int LESS = 2;

    private Numbers() {
    }

    static int statement(int subject, int link, int object) {
        return 32 * subject + 8 * link + object;
    }

    static int pattern(int subject, int link, int object) {
        return 144 * subject + 12 * link + object;
    }

    static int code(int a, int b, int c, int d) {
        return 729 * a + 81 * b + 9 * c + d;
    }
}
