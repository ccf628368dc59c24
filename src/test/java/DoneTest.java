/** Promises 8 to 12: shifts, years, strikes, draws, what is undone. */
public final class DoneTest {
    public static void main(String[] args) {
        shifts();
        bounds();
        years();
        lateYears();
        strikes();
        drifts();
        driftsWithoutRoads();
        undoes();
        Check.end();
    }

    private static void shifts() {
        MovedStones x = Check.of(MarchTest.TEXT);
        Check.due("shift(0, 4)", x.shift(0, 4), 14);
        Check.due("again that year", x.shift(0, -1), Check.NOT);
        Check.due("another ROAD that year", x.shift(2, -4), 26);
        Check.due("without the RIGHT", x.shift(1, 1), Check.NOT);
        Check.due("more than S", x.shift(4, 5), Check.NOT);
        Check.due("more than S down", x.shift(4, -5), Check.NOT);
        Check.due("d 0", x.shift(0, 0), Check.OUTSIDE);
        Check.due("d 10", x.shift(0, 10), Check.OUTSIDE);
        Check.due("d -10", x.shift(0, -10), Check.OUTSIDE);
        Check.due("d LOW", x.shift(4, Check.LOW), Check.OUTSIDE);
        Check.due("d HIGH", x.shift(4, Check.HIGH), Check.OUTSIDE);
        Check.due("MILES 0, and more than S", x.shift(4, -7), Check.OUTSIDE);
        Check.due("MILES 1, and more than S", x.shift(4, -6), Check.NOT);
        Check.due("no ROAD", x.shift(6, 0), Check.UNKNOWN);
        Check.due("no ROAD", x.shift(-1, 1), Check.UNKNOWN);
        Check.due("SHIFTED", x.told(8), 5);
        x.year(1);
        Check.due("nothing SHIFTED", x.told(8), 0);
        Check.due("the RIGHT is elsewhere", x.shift(0, 1), Check.NOT);
        Check.due("the other has it", x.shift(1, 1), 9);
        x.year(1);
        Check.due("the RIGHT is back", x.shift(0, 1), 15);
    }

    private static void bounds() {
        MovedStones x = Check.of("m2 1 9;r0 1 1 99 0;");
        for (int i = 0; i < 100; i++) {
            Check.due("up", x.shift(0, 9), 108 + 9 * i);
            x.year(1);
        }
        Check.due("above 999", x.shift(0, 1), Check.OUTSIDE);
        Check.due("down", x.shift(0, -9), 990);
        Check.due("to 999 again that year", x.shift(0, 9), Check.NOT);
        x = Check.of("m2 1 9;r0 1 1 5 0;");
        Check.due("to 0", x.shift(0, -5), Check.OUTSIDE);
        Check.due("to 1", x.shift(0, -4), 1);
    }

    private static void years() {
        MovedStones x = Check.of("m2 3 9;r0 1 5 5 0;t1 0 7;t0 0 5;t2 0 3;");
        Check.due("year(2)", x.year(2), 2);
        Check.due("nothing BROKEN", x.told(10), 0);
        Check.due("the first", x.told(11), Check.NONE);
        Check.due("its YEAR", x.told(12), Check.NONE);
        Check.due("RIGHT", x.told(7), 2);
        x.year(1);
        Check.due("shift", x.shift(0, 1), 6);
        Check.due("not BROKEN yet", x.told(10), 0);
        Check.due("HOLD now", x.told(9), 5);
        Check.due("year(3)", x.year(3), 6);
        Check.due("BROKEN", x.told(10), 2);
        Check.due("the first", x.told(11), 1);
        Check.due("its YEAR", x.told(12), 3);
        Check.due("shift", x.shift(0, 9), 15);
        x.year(1);
        Check.due("BROKEN too", x.told(10), 3);
        Check.due("the first is kept", x.told(11), 1);
        Check.due("its YEAR is kept", x.told(12), 3);
        x.strike();
        x.year(1);
        Check.due("all HOLD", x.told(9), 7);
        Check.due("for good", x.told(10), 3);
        int[] outside = {0, 100, -1, Check.LOW, Check.HIGH};
        for (int n : outside) {
            Check.due("year(" + n + ")", x.year(n), Check.OUTSIDE);
            Check.due("new: year(" + n + ")", new MovedStones().year(n), Check.OUTSIDE);
        }
        Check.due("no TOWNS", new MovedStones().year(99), Check.NOT);
    }

    private static void lateYears() {
        MovedStones x = Check.of("m2 1 1;");
        for (int i = 1; i <= 90; i++) {
            Check.due("year(99)", x.year(99), 99 * i);
        }
        Check.due("year(90)", x.year(90), 9000);
        Check.due("year(99) at 9000", x.year(99), 9099);
        Check.due("year(1) above 9000", x.year(1), Check.FULL);
        Check.due("drift(1) above 9000", x.drift(1), Check.FULL);
        Check.due("year(0) above 9000", x.year(0), Check.OUTSIDE);
        Check.due("drift(100) above 9000", x.drift(100), Check.OUTSIDE);
        x.undo();
        Check.due("year(1) at 9000", x.year(1), 9001);
        Check.due("year(1) at 9001", x.year(1), Check.FULL);
    }

    private static void strikes() {
        Check.due("no TOWNS", new MovedStones().strike(), Check.NOT);
        MovedStones x = Check.of(MarchTest.TEXT);
        Check.due("shift", x.shift(4, 1), 8);
        Check.due("strike", x.strike(), 6);
        Check.due("nothing SHIFTED", x.told(8), 0);
        Check.due("MILES", x.told(13), 80);
        Check.due("MILES of one", x.road(5, 3), 30);
        Check.due("as told", x.road(5, 4), 20);
        Check.due("shift again that year", x.shift(4, 1), 8);
        Check.due("strike", x.strike(), 1);
        Check.due("strike", x.strike(), 0);
        Check.due("YEAR", x.told(6), 0);
        Check.due("nothing BROKEN", x.told(10), 0);
        Check.due("without ROADS", Check.of("m2 1 1;").strike(), 0);
    }

    private static void drifts() {
        MovedStones x = Check.of("m3 2 3;r0 1 9 10 0;r1 2 8 2 1;t0 0 10;");
        int[] outside = {0, 100, -1, Check.LOW, Check.HIGH};
        for (int n : outside) {
            Check.due("drift(" + n + ")", x.drift(n), Check.OUTSIDE);
        }
        Check.due("no TOWNS", new MovedStones().drift(1), Check.NOT);
        Check.due("no TOWNS, outside", new MovedStones().drift(0), Check.OUTSIDE);
        long seed = 5;
        int[] miles = {10, 2};
        x.seed(5);
        for (int year = 0; year < 140; year++) {
            seed = next(seed);
            if (seed / 65536 % 12 == 0) {
                miles[0] = 9;
                miles[1] = 8;
            } else {
                seed = next(seed);
                int r = (int) (seed / 65536 % 2);
                seed = next(seed);
                int d = (int) (seed / 65536 % 7) - 3;
                if (r == year % 2 && miles[r] + d >= 1 && miles[r] + d <= 999) {
                    miles[r] += d;
                }
            }
            Check.due("drift(1)", x.drift(1), year + 1);
            Check.due("MILES of 0", x.road(0, 3), miles[0]);
            Check.due("MILES of 1", x.road(1, 3), miles[1]);
        }
        Check.due("THE SEED", x.seed(0), (int) seed);
        Check.due("BROKEN", x.told(10), 1);
        Check.due("nothing SHIFTED", x.told(8), 0);
        MovedStones y = Check.of("m3 2 3;r0 1 9 10 0;r1 2 8 2 1;t0 0 10;");
        y.seed(5);
        for (int i = 1; i <= 4; i++) {
            Check.due("drift(35)", y.drift(35), 35 * i);
        }
        Check.due("MILES of 0 alike", y.road(0, 3), miles[0]);
        Check.due("THE SEED alike", y.seed(0), (int) seed);
        Check.due("one to undo each", y.told(17), 4);
    }

    private static void driftsWithoutRoads() {
        MovedStones x = Check.of("m2 1 3;");
        Check.due("drift(40)", x.drift(40), 40);
        long seed = 0;
        for (int year = 0; year < 40; year++) {
            seed = next(seed);
            if (seed / 65536 % 12 != 0) {
                seed = next(seed);
            }
        }
        Check.due("THE SEED without ROADS", x.seed(0), (int) seed);
    }

    private static long next(long seed) {
        return (seed * 1103515245L + 12345L) % 2147483648L;
    }

    private static void undoes() {
        Check.due("nothing", new MovedStones().undo(), Check.NOT);
        MovedStones x = Check.of(MarchTest.TEXT);
        Check.due("nothing yet", x.undo(), Check.NOT);
        x.shift(0, 2);
        x.shift(0, 2);
        x.year(1);
        x.year(0);
        x.strike();
        x.seed(9);
        x.drift(20);
        Check.due("told(17)", x.told(17), 4);
        int seed = x.seed(9);
        x.seed(seed);
        Check.due("undo of drift", x.undo(), 3);
        Check.due("YEAR", x.told(6), 1);
        Check.due("MILES", x.told(13), 80);
        Check.due("THE SEED stays", x.seed(0), seed);
        Check.due("undo of strike", x.undo(), 2);
        Check.due("MILES", x.told(13), 89);
        Check.due("BROKEN", x.told(10), 15);
        Check.due("undo of year", x.undo(), 1);
        Check.due("YEAR", x.told(6), 0);
        Check.due("BROKEN", x.told(10), 0);
        Check.due("the first", x.told(11), Check.NONE);
        Check.due("its YEAR", x.told(12), Check.NONE);
        Check.due("SHIFTED", x.told(8), 1);
        Check.due("undo of shift", x.undo(), 0);
        Check.due("MILES", x.told(13), 87);
        Check.due("SHIFTED", x.told(8), 0);
        Check.due("no more", x.undo(), Check.NOT);
        for (int i = 1; i <= 25; i++) {
            x.year(1);
            Check.due("told(17)", x.told(17), Math.min(i, 20));
        }
        for (int i = 19; i >= 0; i--) {
            Check.due("undo", x.undo(), i);
            Check.due("YEAR", x.told(6), 5 + i);
        }
        Check.due("the oldest are lost", x.undo(), Check.NOT);
        Check.due("YEAR", x.told(6), 5);
        x.want(0, 3);
        x.year(1);
        x.want(0, 0);
        x.undo();
        Check.due("wishes stay", x.told(16), 0);
    }
}
