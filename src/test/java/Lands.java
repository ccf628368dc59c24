/** Texts that several tests share. */
final class Lands {
    private static final int[] A = {0, 1, 2, 3, 4, 5, 0, 0, 1};
    private static final int[] B = {1, 2, 3, 4, 5, 0, 2, 3, 5};

    /** As many of everything as there may be: TOWNS, COUNTIES, S, ROADS, TREATIES. */
    static final String GREAT = of(4, 9, 9) + "t0 0 21;t1 8 1;t2 0,8 22;t0 1,2 45;t1 3,4,5 75;t2 0,1,2,3,4,5,6,7,8 197;";

    private Lands() {
    }

    /** Six TOWNS in a ring with three ROADS across: FEET 11 and on, MILES 21 and on, but for the ninth with 99 and 1. */
    static String of(int counties, int s, int roads) {
        StringBuilder text = new StringBuilder("m6 " + counties + " " + s + ";");
        for (int r = 0; r < roads; r++) {
            String lengths = r == 8 ? " 99 1 " : " " + (11 + r) + " " + (21 + r) + " ";
            text.append("r" + A[r] + " " + B[r] + lengths + r % counties + ";");
        }
        return text.toString();
    }
}
