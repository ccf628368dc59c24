/** The edges of promises 5 to 7, what is told of THE MARCH: each method says which sentence it holds. */
public final class ToldBoundsTest {
    public static void main(String[] args) {
        fromZeroOn();
        toldOutside();
        withoutAnything();
        ofTheGreatest();
        theRight();
        lettersOfTheText();
        holdNow();
        firstBroken();
        wanted();
        roadOutside();
        ofARoad();
        treatyOutside();
        ofATreaty();
        Check.end();
    }

    /** "What has a number has it from 0 on, as it comes."; "A SET is a whole number, bit k for k." */
    private static void fromZeroOn() {
        MovedStones x = Check.of("m4 1 9;r2 3 7 70 0;t1 0 100;r1 0 8 80 0;t2 0,1 100;r0 3 9 90 0;");
        int[] miles = {70, 80, 90};
        for (int r = 0; r < 3; r++) {
            Check.due("MILES of " + r, x.road(r, 3), miles[r]);
        }
        Check.due("A as it comes", x.road(1, 0), 1);
        Check.due("B as it comes", x.road(1, 1), 0);
        Check.due("K of 0", x.treaty(0, 0), 1);
        Check.due("K of 1", x.treaty(1, 0), 2);
        Check.due("a SET of 0 and 1", x.treaty(1, 1), 3);
        x.shift(1, 1);
        Check.due("a SET of 1", x.told(8), 2);
        x.shift(2, 1);
        Check.due("a SET of 1 and 2", x.told(8), 6);
    }

    /** "0 TOWNS, 1 COUNTIES", "17 how many can be undone. OUTSIDE." */
    private static void toldOutside() {
        int[] outside = {-1, 18, 32, -17, Check.LOW, Check.HIGH};
        for (int what : outside) {
            Twins.unchanged("told(" + what + ")", Twins::rich, x -> x.told(what), Check.OUTSIDE);
            Check.due("new: told(" + what + ")", new MovedStones().told(what), Check.OUTSIDE);
        }
        for (int what = 0; what <= 17; what++) {
            Check.due("told(" + what + ") is not refused", new MovedStones().told(what) > -2);
        }
    }

    private static void all(String when, MovedStones x, int... due) {
        for (int what = 0; what <= 17; what++) {
            Check.due(when + ": told(" + what + ")", x.told(what), due[what]);
        }
    }

    /** "7 who has the RIGHT (0 without)", "11 the first one BROKEN (NONE), 12 its YEAR (NONE)" */
    private static void withoutAnything() {
        all("new", new MovedStones(), 0, 0, 0, 0, 0, 0, 0, 0, 0, 0, 0, -1, -1, 0, 0, 0, 0, 0);
        all("TOWNS alone", Check.of("m2 1 1;"), 2, 1, 1, 0, 0, 0, 0, 0, 0, 0, 0, -1, -1, 0, 0, 0, 0, 0);
    }

    /** "8 ROADS SHIFTED this year (a SET), 9 TREATIES that HOLD now, 10 BROKEN ones (SETS)", "13 MILES of all, 14 JOURNEYS" */
    private static void ofTheGreatest() {
        MovedStones x = Check.of(Lands.GREAT);
        all("the greatest", x, 6, 4, 9, 9, 6, 0, 0, 0, 0, 63, 0, -1, -1, 197, 0, 0, 0, 0);
        x.shift(0, 9);
        x.shift(4, -9);
        x.shift(8, 9);
        for (int i = 0; i < 8; i++) {
            x.journey(511, 999);
        }
        for (int i = 0; i < 15; i++) {
            x.write(8, 999);
        }
        for (int r = 4; r < 9; r++) {
            x.want(r, 999);
        }
        all("in YEAR 0", x, 6, 4, 9, 9, 6, 0, 0, 0, 1 | 16 | 256, 4 | 8 | 16 | 32, 0, -1, -1, 206, 8, 15, 496, 3);
        for (int i = 0; i < 17; i++) {
            x.year(1);
        }
        all("in YEAR 17", x, 6, 4, 9, 9, 6, 0, 17, 1, 0, 60, 3, 0, 0, 206, 8, 15, 496, 20);
        x.year(1);
        Check.due("20 at most", x.told(17), 20);
        Check.due("YEAR 18", x.told(6), 18);
    }

    /** "The RIGHT is with COUNTY (YEAR, left over by COUNTIES)." */
    private static void theRight() {
        for (int counties = 1; counties <= 4; counties++) {
            MovedStones x = Check.of("m2 " + counties + " 1;");
            for (int year = 0; year < 13; year++) {
                Check.due("the RIGHT in YEAR " + year + " of " + counties, x.told(7), year % counties);
                x.year(1);
            }
        }
    }

    /** "5 letters of THE TEXT" */
    private static void lettersOfTheText() {
        MovedStones x = new MovedStones();
        Check.due("none", x.told(5), 0);
        for (int i = 1; i <= 250; i++) {
            x.feed(' ');
            Check.due("letters", x.told(5), i);
        }
        x.feed(' ');
        Check.due("no more", x.told(5), 250);
    }

    /** "9 TREATIES that HOLD now": also those that were BROKEN, as soon as they HOLD again. */
    private static void holdNow() {
        MovedStones x = Check.of("m2 1 9;r0 1 5 5 0;t1 0 5;t2 0 5;");
        Check.due("both", x.told(9), 3);
        x.shift(0, 1);
        Check.due("at least", x.told(9), 2);
        x.year(1);
        Check.due("the first is BROKEN", x.told(10), 1);
        x.shift(0, -2);
        Check.due("at most", x.told(9), 1);
        Check.due("still BROKEN", x.told(10), 1);
        x.strike();
        Check.due("both again", x.told(9), 3);
    }

    /** "11 the first one BROKEN (NONE), 12 its YEAR (NONE)" */
    private static void firstBroken() {
        MovedStones x = Check.of("m2 1 9;r0 1 5 5 0;t2 0 5;t0 0 5;t1 0 5;");
        x.shift(0, 1);
        Check.due("not yet", x.told(11), Check.NONE);
        Check.due("no YEAR yet", x.told(12), Check.NONE);
        x.year(1);
        Check.due("of two the first", x.told(11), 1);
        Check.due("YEAR 0", x.told(12), 0);
        x.shift(0, -2);
        x.year(1);
        Check.due("all BROKEN", x.told(10), 7);
        Check.due("the first stays", x.told(11), 1);
        Check.due("its YEAR stays", x.told(12), 0);
    }

    /** "16 ROADS of which MILES are WANTED (a SET)"; "6 MILES WANTED (NONE)" */
    private static void wanted() {
        MovedStones x = Check.of(Lands.GREAT);
        for (int r = 0; r < 9; r++) {
            Check.due("nothing", x.road(r, 6), Check.NONE);
            x.want(r, 1);
            Check.due("a SET", x.told(16), 1 << r);
            Check.due("MILES", x.road(r, 6), 1);
            x.want(r, 999);
            Check.due("MILES", x.road(r, 6), 999);
            x.want(r, 0);
            Check.due("no SET", x.told(16), 0);
            Check.due("nothing again", x.road(r, 6), Check.NONE);
        }
    }

    /** "Of a ROAD: what = 0 A, 1 B, 2 FEET", "UNKNOWN, OUTSIDE." */
    private static void roadOutside() {
        int[] unknown = {-1, 6, 9, 32, Check.LOW, Check.HIGH};
        int[] outside = {-1, 7, 32, Check.LOW, Check.HIGH};
        for (int r : unknown) {
            Twins.unchanged("road(" + r + ", 0)", Twins::rich, x -> x.road(r, 0), Check.UNKNOWN);
            Twins.unchanged("road(" + r + ", 7)", Twins::rich, x -> x.road(r, 7), Check.UNKNOWN);
            Twins.unchanged("road(" + r + ", -1)", Twins::rich, x -> x.road(r, -1), Check.UNKNOWN);
        }
        for (int what : outside) {
            Twins.unchanged("road(0, " + what + ")", Twins::rich, x -> x.road(0, what), Check.OUTSIDE);
            Twins.unchanged("road(5, " + what + ")", Twins::rich, x -> x.road(5, what), Check.OUTSIDE);
        }
        for (int roads = 0; roads <= 9; roads++) {
            MovedStones x = Check.of(Lands.of(4, 9, roads));
            Check.due("ROADS", x.told(3), roads);
            Check.due("the last of " + roads, x.road(roads - 1, 3) > 0 == roads > 0);
            Check.due("one behind " + roads, x.road(roads, 3), Check.UNKNOWN);
        }
    }

    /** "3 MILES now, 4 MILES as told, 5 COUNTY, 6 MILES WANTED (NONE)" */
    private static void ofARoad() {
        MovedStones x = Check.of(Lands.GREAT);
        int[] a = {0, 1, 2, 3, 4, 5, 0, 0, 1};
        int[] b = {1, 2, 3, 4, 5, 0, 2, 3, 5};
        for (int r = 0; r < 9; r++) {
            int[] due = {a[r], b[r], r == 8 ? 99 : 11 + r, r == 8 ? 1 : 21 + r, r == 8 ? 1 : 21 + r, r % 4, Check.NONE};
            for (int what = 0; what <= 6; what++) {
                Check.due("road(" + r + ", " + what + ")", x.road(r, what), due[what]);
            }
        }
        x.shift(8, 9);
        Check.due("MILES now", x.road(8, 3), 10);
        Check.due("MILES as told", x.road(8, 4), 1);
        x.strike();
        Check.due("MILES now", x.road(8, 3), 99);
        Check.due("MILES as told", x.road(8, 4), 1);
    }

    /** "Of a TREATY: what = 0 K, 1 its ROADS (a SET), 2 V", "UNKNOWN, OUTSIDE." */
    private static void treatyOutside() {
        int[] unknown = {-1, 4, 6, 32, Check.LOW, Check.HIGH};
        int[] outside = {-1, 5, 32, Check.LOW, Check.HIGH};
        for (int t : unknown) {
            Twins.unchanged("treaty(" + t + ", 0)", Twins::rich, x -> x.treaty(t, 0), Check.UNKNOWN);
            Twins.unchanged("treaty(" + t + ", 5)", Twins::rich, x -> x.treaty(t, 5), Check.UNKNOWN);
            Twins.unchanged("treaty(" + t + ", -1)", Twins::rich, x -> x.treaty(t, -1), Check.UNKNOWN);
        }
        for (int what : outside) {
            Twins.unchanged("treaty(0, " + what + ")", Twins::rich, x -> x.treaty(0, what), Check.OUTSIDE);
            Twins.unchanged("treaty(3, " + what + ")", Twins::rich, x -> x.treaty(3, what), Check.OUTSIDE);
        }
        MovedStones x = Check.of(Lands.GREAT);
        Check.due("the sixth", x.treaty(5, 2), 197);
        Check.due("a seventh", x.treaty(6, 2), Check.UNKNOWN);
        Check.due("without TREATIES", Check.of("m2 1 1;r0 1 1 1 0;").treaty(0, 0), Check.UNKNOWN);
    }

    /** "3 MILES together now, 4 1 it HOLDS now, 0 not." */
    private static void ofATreaty() {
        MovedStones x = Check.of(Lands.GREAT);
        int[][] due = {{0, 1, 21, 21, 1}, {1, 256, 1, 1, 1}, {2, 257, 22, 22, 1}, {0, 6, 45, 45, 1}, {1, 56, 75, 75, 1},
            {2, 511, 197, 197, 1}};
        for (int t = 0; t < 6; t++) {
            for (int what = 0; what <= 4; what++) {
                Check.due("treaty(" + t + ", " + what + ")", x.treaty(t, what), due[t][what]);
            }
        }
        x.shift(0, -1);
        int[] sums = {20, 1, 21, 45, 75, 196};
        int[] hold = {0, 1, 0, 1, 1, 0};
        for (int t = 0; t < 6; t++) {
            Check.due("then treaty(" + t + ", 3)", x.treaty(t, 3), sums[t]);
            Check.due("then treaty(" + t + ", 4)", x.treaty(t, 4), hold[t]);
        }
    }
}
