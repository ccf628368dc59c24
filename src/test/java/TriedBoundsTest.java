/** The edges of section 3, what is TRIED, and of promises 13 to 24: each method says which sentence it holds. */
public final class TriedBoundsTest {
    // A way of five ROADS, the most that there can be, from TOWN 0 to 5.
    private static final String CHAIN = "m6 2 9;r4 5 1 9 0;r3 4 2 8 1;r2 3 3 7 0;r1 2 4 6 1;r0 1 5 5 0;";

    public static void main(String[] args) {
        nothingChanges();
        unlikeTowns();
        waysOfTheLeast();
        noWay();
        wayOfFiveRoads();
        theIthRoad();
        theLesserRoadAhead();
        threeTowns();
        moreThanTheOtherTwo();
        theFirstThree();
        mendZeroToFour();
        mendRoadBounds();
        mendTheFirst();
        mendUnknown();
        wantBounds();
        wantFive();
        dawnNights();
        dawnOrders();
        dawnsThatHoldNow();
        roundOutside();
        roundTowns();
        roundMost();
        roundLike();
        deceiveBounds();
        deceiveMore();
        deceiveLike();
        feeParts();
        feeUnknown();
        owesBounds();
        clashes();
        clashTheFirst();
        rates();
        Check.end();
    }

    /** "TRIED; nothing changes by it." */
    private static void nothingChanges() {
        Twins.unchanged("way", Twins::rich, x -> x.way(0, 3, false), 25);
        Twins.unchanged("way by FEET", Twins::rich, x -> x.way(0, 3, true), 23);
        Twins.unchanged("truly", Twins::rich, x -> x.truly(0, 3, -1), 25);
        Twins.unchanged("truly, a ROAD", Twins::rich, x -> x.truly(0, 3, 0), 2);
        Twins.unchanged("adds", Twins::rich, MovedStones::adds, Check.NONE);
        Twins.unchanged("mend", x -> Check.march(x, "m2 1 1;r0 1 5 5 0;t0 0 9;"), x -> x.mend(-1), 4);
        Twins.unchanged("mend of a ROAD", x -> Check.march(x, "m2 1 1;r0 1 5 5 0;t0 0 9;"), x -> x.mend(0), 104);
        Twins.unchanged("dawns", Twins::rich, x -> x.dawns(-1), 2);
        Twins.unchanged("dawns, the second", Twins::rich, x -> x.dawns(1), 3);
        for (int what = 0; what <= 2; what++) {
            int it = what;
            int[] due = {1004, 7, 7};
            Twins.unchanged("round(" + what + ")", Twins::rich, x -> x.round(it), due[what]);
        }
        Twins.unchanged("deceive", x -> Check.march(x, "m3 1 9;r0 2 50 19 0;r0 1 5 9 0;r1 2 5 9 0;"), x -> x.deceive(0, 2), 0);
        Twins.unchanged("fee", Twins::rich, x -> x.fee(0, 3, 1), 200);
        Twins.unchanged("owes", Twins::rich, x -> x.owes(1), 1004);
        Twins.unchanged("clash", Twins::rich, MovedStones::clash, 3);
        Twins.unchanged("rate", Twins::rich, x -> x.rate(0, 3), 4);
        Twins.unchanged("liars", Twins::rich, MovedStones::liars, 20);
        Twins.unchanged("fits", Twins::rich, x -> x.fits(2, 1), 21);
        Twins.unchanged("judge", Twins::rich, MovedStones::judge, 2);
    }

    /** "WAY of two unlike TOWNS"; "UNKNOWN (a TOWN, ROAD, COUNTY, TREATY, IMAGE that there is not; one twice" */
    private static void unlikeTowns() {
        for (int towns = 2; towns <= 6; towns++) {
            StringBuilder text = new StringBuilder("m" + towns + " 1 1;");
            for (int town = 1; town < towns; town++) {
                text.append("r0 ").append(town).append(" 5 5 0;");
            }
            MovedStones x = Check.of(text.toString());
            for (int a = -1; a <= towns; a++) {
                for (int b = -1; b <= towns; b++) {
                    boolean known = a >= 0 && a < towns && b >= 0 && b < towns && a != b;
                    String pair = "(" + a + ", " + b + ") of " + towns;
                    Check.due("way" + pair, x.way(a, b, false) == Check.UNKNOWN, !known);
                    Check.due("truly" + pair, x.truly(a, b, -1) == Check.UNKNOWN, !known);
                    Check.due("deceive" + pair, x.deceive(a, b) == Check.UNKNOWN, !known);
                    Check.due("fee" + pair, x.fee(a, b, 0) == Check.UNKNOWN, !known);
                    Check.due("rate" + pair, x.rate(a, b) == Check.UNKNOWN, !known);
                }
            }
        }
        int[][] pairs = {{0, 0}, {4, 4}, {-1, 0}, {0, -1}, {5, 0}, {0, 5}, {5, 5}, {Check.LOW, 0}, {0, Check.HIGH}};
        for (int[] pair : pairs) {
            int a = pair[0];
            int b = pair[1];
            String towns = "(" + a + ", " + b + ")";
            Twins.unchanged("way" + towns, Twins::rich, x -> x.way(a, b, false), Check.UNKNOWN);
            Twins.unchanged("way by FEET" + towns, Twins::rich, x -> x.way(a, b, true), Check.UNKNOWN);
            Twins.unchanged("truly" + towns, Twins::rich, x -> x.truly(a, b, -1), Check.UNKNOWN);
            Twins.unchanged("truly, a ROAD" + towns, Twins::rich, x -> x.truly(a, b, 0), Check.UNKNOWN);
            Twins.unchanged("truly, no ROAD" + towns, Twins::rich, x -> x.truly(a, b, -2), Check.UNKNOWN);
            Twins.unchanged("deceive" + towns, Twins::rich, x -> x.deceive(a, b), Check.UNKNOWN);
            Twins.unchanged("fee" + towns, Twins::rich, x -> x.fee(a, b, 0), Check.UNKNOWN);
            Twins.unchanged("rate" + towns, Twins::rich, x -> x.rate(a, b), Check.UNKNOWN);
        }
    }

    /** "by MILES, or by FEET: the least together over ROADS" */
    private static void waysOfTheLeast() {
        MovedStones x = Check.of("m3 1 9;r0 1 3 9 0;r1 2 3 9 0;r0 2 7 17 0;");
        Check.due("one ROAD by MILES", x.way(0, 2, false), 17);
        Check.due("two ROADS by FEET", x.way(0, 2, true), 6);
        x.shift(2, 1);
        Check.due("as many MILES", x.way(0, 2, false), 18);
        x.year(1);
        x.shift(2, 1);
        Check.due("more MILES", x.way(0, 2, false), 18);
        Check.due("FEET stay", x.way(0, 2, true), 6);
        Check.due("back", x.way(2, 0, false), 18);
    }

    /** "WAY (byFeet): NONE."; "NONE: no WAY" */
    private static void noWay() {
        MovedStones x = Check.of("m4 2 9;r0 1 5 5 0;r2 3 5 5 1;t0 0 5;");
        for (int a = 0; a < 2; a++) {
            for (int b = 2; b < 4; b++) {
                Check.due("way", x.way(a, b, false), Check.NONE);
                Check.due("way by FEET", x.way(b, a, true), Check.NONE);
                Check.due("truly", x.truly(a, b, -1), Check.NONE);
                Check.due("truly, a ROAD", x.truly(b, a, 0), Check.NONE);
                Check.due("deceive", x.deceive(a, b), Check.NONE);
                Check.due("fee", x.fee(b, a, 0), Check.NONE);
                Check.due("fee of no COUNTY", x.fee(b, a, 2), Check.UNKNOWN);
                Check.due("rate", x.rate(a, b), Check.NONE);
            }
        }
        Check.due("without ROADS", Check.of("m2 1 1;").way(0, 1, false), Check.NONE);
        Check.due("truly without ROADS", Check.of("m2 1 1;").truly(0, 1, -1), Check.NONE);
        Check.due("deceive without ROADS", Check.of("m2 1 1;").deceive(0, 1), Check.NONE);
    }

    /** "the least together over ROADS": also over as many as there can be, told last first. */
    private static void wayOfFiveRoads() {
        MovedStones x = Check.of(CHAIN);
        Check.due("MILES", x.way(0, 5, false), 35);
        Check.due("FEET", x.way(0, 5, true), 15);
        Check.due("MILES back", x.way(5, 0, false), 35);
        Check.due("FEET back", x.way(5, 0, true), 15);
        Check.due("truly", x.truly(0, 5, -1), 15);
        Check.due("fee", x.fee(0, 5, 0), 600);
        Check.due("fee of the other", x.fee(0, 5, 1), 400);
        Check.due("rate", x.rate(0, 5), 5);
    }

    /** "how many FEET it is; its i-th ROAD; NONE"; "i = NONE FEET, else the i-th ROAD" */
    private static void theIthRoad() {
        MovedStones x = Check.of(CHAIN);
        for (int i = 0; i < 5; i++) {
            Check.due("ROAD " + i, x.truly(0, 5, i), 4 - i);
            Check.due("ROAD " + i + " back", x.truly(5, 0, i), i);
        }
        int[] none = {5, 6, 9, -2, Check.LOW, Check.HIGH};
        for (int i : none) {
            Check.due("ROAD " + i, x.truly(0, 5, i), Check.NONE);
        }
        Check.due("of one ROAD", x.truly(0, 1, 0), 4);
        Check.due("of one ROAD, a second", x.truly(0, 1, 1), Check.NONE);
    }

    /** "of like ones the first, ROAD by ROAD from the first TOWN on, the lesser ROAD ahead" */
    private static void theLesserRoadAhead() {
        // Three like ways from 0 to 3: ROADS 4, 0 or 2, 1 or 3 alone.
        MovedStones x = Check.of("m4 1 9;r1 3 1 5 0;r2 3 2 5 0;r0 2 4 5 0;r0 3 8 10 0;r0 1 16 5 0;");
        Check.due("from 0: by ROADS 2, 1", x.truly(0, 3, -1), 6);
        Check.due("the first", x.truly(0, 3, 0), 2);
        Check.due("the second", x.truly(0, 3, 1), 1);
        Check.due("from 3: by ROADS 0, 4", x.truly(3, 0, -1), 17);
        Check.due("the first", x.truly(3, 0, 0), 0);
        Check.due("the second", x.truly(3, 0, 1), 4);
        // Alike in the first ROAD, unlike in the second.
        x = Check.of("m5 1 9;r0 1 1 5 0;r3 4 2 4 0;r1 3 4 3 0;r1 2 8 3 0;r2 4 16 4 0;");
        Check.due("ROADS 0, 2, 1", x.truly(0, 4, -1), 7);
        Check.due("the last", x.truly(0, 4, 2), 1);
        Check.due("back: ROADS 1, 2, 0", x.truly(4, 0, -1), 7);
    }

    /** "the first three TOWNS (a below b below c) with ROADS between all three": not with two of them. */
    private static void threeTowns() {
        Check.due("no TOWNS", new MovedStones().adds(), Check.NONE);
        Check.due("two TOWNS", Check.of("m2 1 1;r0 1 1 9 0;").adds(), Check.NONE);
        String[] two = {"r0 1 1 99 0;r1 2 1 1 0;", "r0 1 1 99 0;r0 2 1 1 0;", "r1 2 1 99 0;r0 2 1 1 0;"};
        for (String roads : two) {
            Check.due("two ROADS", Check.of("m3 1 1;" + roads).adds(), Check.NONE);
        }
        Check.due("a round of four", Check.of("m4 1 1;r0 1 1 99 0;r1 2 1 1 0;r2 3 1 1 0;r3 0 1 1 0;").adds(), Check.NONE);
    }

    /** "of which one has more MILES than the other two together" */
    private static void moreThanTheOtherTwo() {
        for (int one = 0; one < 3; one++) {
            for (int miles = 1; miles <= 12; miles++) {
                int[] m = {4, 4, 4};
                m[one] = miles;
                MovedStones x = Check.of("m3 1 1;r0 1 1 " + m[0] + " 0;r1 2 1 " + m[1] + " 0;r2 0 1 " + m[2] + " 0;");
                Check.due("one of " + miles, x.adds(), miles > 8 ? 12 : Check.NONE);
            }
        }
    }

    /** "100 a, 10 b and c; NONE": every three of six TOWNS. */
    private static void theFirstThree() {
        for (int a = 0; a < 6; a++) {
            for (int b = a + 1; b < 6; b++) {
                for (int c = b + 1; c < 6; c++) {
                    MovedStones x = Check.of("m6 1 1;r" + c + " " + a + " 1 3 0;r" + b + " " + a + " 1 1 0;r" + b + " " + c + " 1 1 0;");
                    Check.due("three", x.adds(), 100 * a + 10 * b + c);
                }
            }
        }
        String four = "m4 1 1;r2 3 1 1 0;r1 3 1 1 0;r1 2 1 9 0;r0 3 1 1 0;r0 2 1 9 0;r0 1 1 9 0;";
        Check.due("012 adds, 013 does not", Check.of(four).adds(), 13);
        Check.due("023 and 123 do not", Check.of(four.replace("r0 1 1 9", "r0 1 1 1")).adds(), 23);
        Check.due("012 and others do not", Check.of(four.replace("r0 1 1 9", "r0 1 1 19")).adds(), 12);
    }

    private static void mended(String text, int total, int... changes) {
        MovedStones x = Check.of(text);
        Check.due("mend(-1) of " + text, x.mend(-1), total);
        for (int r = 0; r < changes.length; r++) {
            Check.due("mend(" + r + ") of " + text, x.mend(r), total == Check.NONE ? Check.NONE : changes[r] + 100);
        }
    }

    /** "the fewest MILES (0 .. 4 together, up or down"; "how many; by how much a ROAD is changed, and 100; NONE" */
    private static void mendZeroToFour() {
        for (int v = 40; v <= 60; v++) {
            int by = v - 50;
            boolean can = Math.abs(by) <= 4;
            mended("m2 1 1;r0 1 5 50 0;t0 0 " + v + ";", can ? Math.abs(by) : Check.NONE, by);
            mended("m2 1 1;r0 1 5 50 0;t1 0 " + v + ";", by < -4 ? Check.NONE : Math.max(0, -by), Math.min(0, by));
            mended("m2 1 1;r0 1 5 50 0;t2 0 " + v + ";", by > 4 ? Check.NONE : Math.max(0, by), Math.max(0, by));
        }
        String four = "m5 1 1;r0 1 5 50 0;r1 2 5 50 0;r2 3 5 50 0;r3 4 5 50 0;r4 0 5 50 0;";
        mended(four + "t0 0 51;t0 1 49;t0 2 51;t0 3 49;", 4, 1, -1, 1, -1, 0);
        mended(four + "t0 0 51;t0 1 49;t0 2 51;t0 3 49;t0 4 51;", Check.NONE, 0, 0, 0, 0, 0);
        mended(four + "t0 0 52;t0 1 48;t0 2 50;", 4, 2, -2, 0, 0, 0);
        mended(four + "t0 0 53;t0 1 48;", Check.NONE, 0, 0, 0, 0, 0);
        mended("m2 1 1;", 0);
        Check.due("no TOWNS", new MovedStones().mend(-1), 0);
        Check.due("without ROADS", Check.of("m2 1 1;").mend(0), Check.UNKNOWN);
        mended(Lands.of(4, 9, 9) + "t0 8 5;", 4, 0, 0, 0, 0, 0, 0, 0, 0, 4);
        mended(Lands.of(4, 9, 9) + "t0 0 21;t0 1 22;t0 2 23;t0 3 24;t0 4 25;t0 8 3;", 2, 0, 0, 0, 0, 0, 0, 0, 0, 2);
        mended(Lands.of(4, 9, 9) + "t0 0 21;t0 1 22;t0 2 23;t0 3 24;t0 4 25;t0 7,8 27;", 2, 0, 0, 0, 0, 0, 0, 0, -2, 0);
    }

    /** "each ROAD's MILES 1 to 999; RIGHTS of no matter" */
    private static void mendRoadBounds() {
        mended("m3 2 1;r0 1 5 1 1;r1 2 5 9 1;t0 0,1 8;", 2, 0, -2);
        mended("m3 2 1;r0 1 5 2 1;r1 2 5 9 1;t0 0,1 9;", 2, -1, -1);
        mended("m3 2 1;r0 1 5 3 1;r1 2 5 9 1;t0 0,1 10;", 2, -2, 0);
        mended("m2 1 1;r0 1 5 5 0;t1 0 1;", 4, -4);
        mended("m2 1 1;r0 1 5 4 0;t1 0 0;", Check.NONE, 0);
        mended("m3 1 1;r0 1 5 1 0;r1 2 5 1 0;t1 0,1 1;", Check.NONE, 0, 0);
        MovedStones x = Check.of("m2 1 9;r0 1 1 99 0;t0 0 999;");
        for (int i = 0; i < 99; i++) {
            x.shift(0, 9);
            x.year(1);
        }
        x.shift(0, 5);
        Check.due("995 to 999", x.mend(-1), 4);
        Check.due("up by 4", x.mend(0), 104);
        x.year(1);
        x.shift(0, 4);
        Check.due("999", x.mend(-1), 0);
    }

    /** "of like ones the first (ROAD by ROAD: what it is changed by, the lesser first, below 0 ahead of 0)" */
    private static void mendTheFirst() {
        String three = "m4 1 1;r0 1 5 50 0;r1 2 5 50 0;r2 3 5 50 0;";
        mended(three + "t0 0,1,2 149;", 1, -1, 0, 0);
        mended(three + "t0 0,1,2 151;", 1, 0, 0, 1);
        mended(three + "t0 0,1,2 146;", 4, -4, 0, 0);
        mended(three + "t0 0,1,2 154;", 4, 0, 0, 4);
        mended(three + "t0 0,1,2 145;", Check.NONE, 0, 0, 0);
        mended(three + "t0 0,1 99;t0 1,2 99;", 1, 0, -1, 0);
        mended(three + "t0 0,1 99;t0 1,2 101;", 2, -1, 0, 1);
        mended(three + "t0 0,1 100;t0 1,2 100;t2 0 51;", 3, 1, -1, 1);
        mended(three + "t0 0,1 100;t1 0,2 99;", 1, 0, 0, -1);
        mended(three + "t0 0,1 101;t0 1,2 101;t0 0,2 100;", 1, 0, 1, 0);
        mended(three + "t0 0,1 98;t0 2 50;", 2, -2, 0, 0);
        mended(three + "t0 0,1 98;t2 0 49;", 2, -1, -1, 0);
    }

    /** "r = NONE how many, else by how much, and 100; NONE. UNKNOWN." */
    private static void mendUnknown() {
        int[] unknown = {-2, 6, 9, Check.LOW, Check.HIGH};
        for (int r : unknown) {
            Twins.unchanged("mend(" + r + ")", Twins::rich, x -> x.mend(r), Check.UNKNOWN);
        }
        // The greatest text's treaties all HOLD, rich's clash.
        Check.due("mend(8)", Check.of(Lands.GREAT).mend(8), 100);
        Check.due("mend(9)", Check.of(Lands.GREAT).mend(9), Check.UNKNOWN);
        MovedStones x = new MovedStones();
        Twins.rich(x);
        Check.due("cannot be mended", x.mend(-1), Check.NONE);
        Check.due("cannot be mended, a ROAD", x.mend(5), Check.NONE);
    }

    /** "MILES of a ROAD are WANTED (1 .. 999; 0: no more): of how many ROADS they are then. UNKNOWN, OUTSIDE" */
    private static void wantBounds() {
        MovedStones x = Check.of(MarchTest.TEXT);
        Check.due("want(0, 1)", x.want(0, 1), 1);
        Check.due("want(0, 999)", x.want(0, 999), 1);
        Check.due("want(1, 999)", x.want(1, 999), 2);
        Check.due("want(1, 0)", x.want(1, 0), 1);
        Check.due("want(1, 0) again", x.want(1, 0), 1);
        Check.due("want(0, 0)", x.want(0, 0), 0);
        int[] outside = {-1, 1000, Check.LOW, Check.HIGH};
        for (int miles : outside) {
            Twins.unchanged("want(0, " + miles + ")", Twins::rich, y -> y.want(0, miles), Check.OUTSIDE);
            Twins.unchanged("want(5, " + miles + ")", Twins::rich, y -> y.want(5, miles), Check.OUTSIDE);
        }
        int[] unknown = {-1, 6, 9, 32, Check.LOW, Check.HIGH};
        for (int r : unknown) {
            Twins.unchanged("want(" + r + ", 1)", Twins::rich, y -> y.want(r, 1), Check.UNKNOWN);
            Twins.unchanged("want(" + r + ", 0)", Twins::rich, y -> y.want(r, 0), Check.UNKNOWN);
            Twins.unchanged("want(" + r + ", 1000)", Twins::rich, y -> y.want(r, 1000), Check.UNKNOWN);
        }
    }

    private static void wantingFive(MovedStones x) {
        Twins.rich(x);
        for (int r = 0; r < 5; r++) {
            x.want(r, 5 + r);
        }
    }

    /** "WANTED MILES of ROADS (5 at most)"; "FULL: of 5 others they are." */
    private static void wantFive() {
        Twins.unchanged("of a sixth", TriedBoundsTest::wantingFive, x -> x.want(5, 1), Check.FULL);
        Twins.unchanged("of a sixth, 999", TriedBoundsTest::wantingFive, x -> x.want(5, 999), Check.FULL);
        Twins.unchanged("of a sixth, 1000", TriedBoundsTest::wantingFive, x -> x.want(5, 1000), Check.OUTSIDE);
        Twins.unchanged("of a sixth, -1", TriedBoundsTest::wantingFive, x -> x.want(5, -1), Check.OUTSIDE);
        Twins.unchanged("of a seventh", TriedBoundsTest::wantingFive, x -> x.want(6, 1), Check.UNKNOWN);
        Twins.unchanged("of a seventh, 1000", TriedBoundsTest::wantingFive, x -> x.want(6, 1000), Check.UNKNOWN);
        Twins.unchanged("no more of a sixth, which was none", TriedBoundsTest::wantingFive, x -> x.want(5, 0), 5);
        MovedStones x = new MovedStones();
        wantingFive(x);
        for (int r = 0; r < 5; r++) {
            Check.due("anew of one of the five", x.want(r, 100 + r), 5);
            Check.due("MILES anew", x.road(r, 6), 100 + r);
        }
        Check.due("no more of one", x.want(0, 0), 4);
        Check.due("then of the sixth", x.want(5, 1), 5);
        Check.due("and not of the first", x.want(0, 1), Check.FULL);
    }

    /** "i = NONE how many, else the i-th ROAD; NONE."; "ROADS whose MILES are WANTED otherwise, one each night" */
    private static void dawnNights() {
        MovedStones x = Check.of(Lands.GREAT);
        Check.due("nothing WANTED", x.dawns(-1), 0);
        Check.due("nothing WANTED: the first", x.dawns(0), Check.NONE);
        x.want(0, 21);
        Check.due("WANTED as it is", x.dawns(-1), 0);
        Check.due("WANTED as it is: the first", x.dawns(0), Check.NONE);
        x.want(0, 0);
        for (int r = 3; r <= 7; r++) {
            x.want(r, 1);
        }
        Check.due("below 197 together", x.dawns(-1), Check.NONE);
        x.want(5, 999);
        Check.due("above 75 together", x.dawns(-1), Check.NONE);
        x.want(5, 0);
        x.want(6, 999);
        x.want(7, 999);
        x.want(5, 2);
        int[] due = {6, 3, 4, 5, 7};
        Check.due("five nights", x.dawns(-1), 5);
        for (int i = 0; i < 5; i++) {
            Check.due("night " + i, x.dawns(i), due[i]);
        }
        int[] none = {5, 6, -2, Check.LOW, Check.HIGH};
        for (int i : none) {
            Check.due("night " + i, x.dawns(i), Check.NONE);
        }
        Check.due("no TOWNS", new MovedStones().dawns(-1), 0);
        Check.due("no TOWNS, a night", new MovedStones().dawns(0), Check.NONE);
    }

    /** "the first such (the lesser ROAD first)"; "from MILES now to those WANTED (RIGHTS, S of no matter)" */
    private static void dawnOrders() {
        MovedStones x = Check.of("m4 4 1;r0 1 5 50 3;r1 2 5 50 2;r2 3 5 50 1;");
        x.want(2, 1);
        x.want(0, 999);
        x.want(1, 500);
        for (int i = 0; i < 3; i++) {
            Check.due("night " + i, x.dawns(i), i);
        }
        x = Check.of("m4 4 1;r0 1 5 50 3;r1 2 5 50 2;r2 3 5 50 1;t1 0,1 100;t2 0,2 100;");
        x.want(0, 60);
        x.want(1, 40);
        x.want(2, 40);
        int[] due = {1, 0, 2};
        for (int i = 0; i < 3; i++) {
            Check.due("by treaties night " + i, x.dawns(i), due[i]);
        }
        x.want(2, 39);
        Check.due("the last dawn counts", x.dawns(-1), Check.NONE);
        x.want(2, 41);
        Check.due("the last dawn is well", x.dawns(-1), 3);
        x.want(1, 41);
        Check.due("a dawn on the way", x.dawns(-1), Check.NONE);
    }

    /** "so that each dawn all TREATIES HOLD that HOLD now"; "NONE: no such" */
    private static void dawnsThatHoldNow() {
        MovedStones x = Check.of("m3 1 9;r0 1 5 50 0;r1 2 5 50 0;t0 0,1 100;t0 0,1 101;");
        x.want(0, 51);
        Check.due("it is broken for the other", x.dawns(-1), Check.NONE);
        Check.due("no night", x.dawns(0), Check.NONE);
        x.want(1, 49);
        Check.due("between them it is broken", x.dawns(-1), Check.NONE);
        x = Check.of("m3 1 9;r0 1 5 50 0;r1 2 5 50 0;t0 0,1 101;");
        x.want(0, 52);
        x.want(1, 49);
        Check.due("it does not HOLD now", x.dawns(-1), 2);
        x.shift(0, 1);
        Check.due("it HOLDS now", x.dawns(-1), Check.NONE);
        x.year(1);
        x.shift(0, 1);
        Check.due("it is BROKEN and does not HOLD now", x.dawns(-1), 1);
        Check.due("by ROAD 1", x.dawns(0), 1);
    }

    /** "what = 0 how much, and 1000, 1 TOWNS, 2 ROADS (SETS); NONE. OUTSIDE." */
    private static void roundOutside() {
        int[] outside = {-1, 3, 32, Check.LOW, Check.HIGH};
        for (int what : outside) {
            Twins.unchanged("round(" + what + ")", Twins::rich, x -> x.round(what), Check.OUTSIDE);
            Twins.unchanged("no round: round(" + what + ")", x -> { }, x -> x.round(what), Check.OUTSIDE);
        }
        for (int what = 0; what <= 2; what++) {
            Check.due("no TOWNS", new MovedStones().round(what), Check.NONE);
            Check.due("no round", Check.of(CHAIN).round(what), Check.NONE);
        }
    }

    /** "of rounds over 3 or more unlike TOWNS back to the first one (each ROAD both ways alike)"; "NONE: no round" */
    private static void roundTowns() {
        Check.due("to and fro is no round", Check.of("m2 1 1;r0 1 1 99 0;").round(0), Check.NONE);
        Check.due("nor over three", Check.of("m3 1 1;r0 1 1 99 0;r1 2 1 99 0;").round(0), Check.NONE);
        String[] three = {"r0 1", "r1 2", "r2 0", "r1 0", "r2 1", "r0 2"};
        for (int ways = 0; ways < 8; ways++) {
            StringBuilder text = new StringBuilder("m3 1 1;");
            for (int r = 0; r < 3; r++) {
                text.append(three[(ways >> r & 1) * 3 + r]).append(" 5 7 0;");
            }
            MovedStones x = Check.of(text.toString());
            Check.due("three", x.round(0), 1006);
            Check.due("their TOWNS", x.round(1), 7);
            Check.due("their ROADS", x.round(2), 7);
        }
        MovedStones x = Check.of("m6 1 1;r5 3 5 6 0;r0 1 1 99 0;r3 4 5 6 0;r4 5 5 6 0;");
        Check.due("far off", x.round(0), 1003);
        Check.due("far off, TOWNS", x.round(1), 56);
        Check.due("far off, ROADS", x.round(2), 13);
        // Two rounds that meet in TOWN 2 are no round together.
        x = Check.of("m5 1 1;r0 1 5 6 0;r1 2 5 6 0;r2 0 5 6 0;r2 3 5 7 0;r3 4 5 7 0;r4 2 5 7 0;");
        Check.due("a TOWN twice", x.round(0), 1006);
        Check.due("a TOWN twice, TOWNS", x.round(1), 28);
        Check.due("a TOWN twice, ROADS", x.round(2), 56);
    }

    /** "that of most MILES less FEET"; "how much (may be below 0), and 1000" */
    private static void roundMost() {
        MovedStones x = Check.of("m6 1 1;r0 1 99 1 0;r1 2 99 1 0;r2 3 99 1 0;r3 4 99 1 0;r4 5 99 1 0;r5 0 99 1 0;");
        Check.due("the least that may be", x.round(0), 412);
        x = Check.of("m6 1 1;r0 1 1 99 0;r1 2 1 99 0;r2 3 1 99 0;r3 4 1 99 0;r4 5 1 99 0;r5 0 1 99 0;r0 3 99 1 0;");
        Check.due("six ROADS", x.round(0), 1588);
        Check.due("six TOWNS", x.round(1), 63);
        x = Check.of("m3 1 1;r0 1 5 4 0;r1 2 5 5 0;r0 2 5 5 0;");
        Check.due("1 below 0", x.round(0), 999);
        x = Check.of("m4 1 9;r0 1 5 5 0;r1 2 5 5 0;r0 2 5 5 0;r2 3 5 4 0;r0 3 5 6 0;");
        Check.due("0", x.round(0), 1000);
        x.shift(2, -1);
        Check.due("without the ROAD across", x.round(1), 15);
        Check.due("its ROADS", x.round(2), 27);
        x.year(1);
        x.shift(2, 3);
        Check.due("with the ROAD across", x.round(0), 1002);
        Check.due("its TOWNS", x.round(1), 7);
    }

    /** "of like ones the least SET of TOWNS, then of ROADS" */
    private static void roundLike() {
        // All ROADS between four TOWNS, all alike: the three of the least SET.
        MovedStones x = Check.of("m4 1 9;r2 3 5 5 0;r1 3 5 5 0;r1 2 5 5 0;r0 3 5 5 0;r0 2 5 5 0;r0 1 5 5 0;");
        Check.due("TOWNS 0, 1, 2", x.round(1), 7);
        Check.due("their ROADS", x.round(2), 4 | 16 | 32);
        // A SET of TOWNS with a greater SET of ROADS is still ahead.
        x = Check.of("m5 1 9;r2 3 5 5 0;r3 4 5 5 0;r4 2 5 5 0;r0 1 5 5 0;r1 2 5 5 0;r2 0 5 5 0;");
        Check.due("TOWNS 0, 1, 2", x.round(1), 7);
        Check.due("their ROADS", x.round(2), 56);
        // Of four TOWNS there are three rounds, of the ROADS but for a pair each.
        x = Check.of("m4 1 9;r0 1 5 5 0;r2 3 5 5 0;r0 2 5 6 0;r1 3 5 6 0;r0 3 5 6 0;r1 2 5 6 0;");
        Check.due("of 2 to 5: 4", x.round(0), 1004);
        x = Check.of("m4 1 9;r0 3 5 6 0;r1 2 5 6 0;r0 1 5 6 0;r2 3 5 6 0;r0 2 5 6 0;r1 3 5 6 0;");
        Check.due("all three alike: all TOWNS", x.round(1), 15);
        Check.due("the least SET of ROADS", x.round(2), 15);
        x = Check.of("m4 1 9;r1 3 5 6 0;r0 1 5 6 0;r0 2 5 6 0;r0 3 5 6 0;r1 2 5 6 0;r2 3 5 6 0;");
        Check.due("the least SET of ROADS", x.round(2), 1 | 4 | 8 | 16);
    }

    /** "the ROAD and by 1 MILE more or less (1 to 999)" */
    private static void deceiveBounds() {
        // ROAD 0 less than 1 would do as well as ROAD 1 less.
        MovedStones x = Check.of("m3 1 9;r0 1 90 1 0;r1 2 90 5 0;r0 2 5 5 0;");
        Check.due("ROAD 1 less", x.deceive(0, 2), 10);
        x = Check.of("m3 1 9;r0 1 90 2 0;r1 2 90 4 0;r0 2 5 5 0;");
        Check.due("2 may be less", x.deceive(0, 2), 0);
        // ROAD 0 more than 999 would do as well as ROAD 1 less.
        x = Check.of("m3 1 9;r0 1 1 99 0;r0 2 9 99 0;r2 1 9 99 0;");
        for (int i = 0; i < 100; i++) {
            x.shift(0, 9);
            if (i < 89) {
                x.shift(1, 9);
            }
            x.year(1);
        }
        Check.due("999", x.road(0, 3), 999);
        Check.due("999 as well", x.way(0, 2, false) + x.way(2, 1, false), 999);
        Check.due("ROAD 1 less", x.deceive(0, 1), 10);
        x.shift(0, -1);
        x.year(1);
        x.shift(2, -1);
        Check.due("998 may be more", x.deceive(0, 1), 1);
    }

    /** "by which its FEET are most, if they are more than now" */
    private static void deceiveMore() {
        Check.due("one way alone", Check.of("m2 1 9;r0 1 5 5 0;").deceive(0, 1), Check.NONE);
        for (int feet = 8; feet <= 12; feet++) {
            MovedStones y = Check.of("m3 1 9;r0 1 5 5 0;r1 2 5 5 0;r0 2 " + feet + " 10 0;");
            Check.due("10 FEET, the other way " + feet, y.deceive(0, 2), feet > 10 ? 1 : Check.NONE);
        }
        // Three ways from 0 to 1: less on ROAD 1 makes it 20 FEET, less on ROAD 3 makes it 30.
        MovedStones x = Check.of("m4 1 9;r0 1 5 9 0;r0 2 10 5 0;r2 1 10 4 0;r0 3 15 5 0;r3 1 15 4 0;");
        Check.due("the most FEET", x.deceive(0, 1), 30);
        Check.due("back", x.deceive(1, 0), 30);
    }

    /** "of like ones the least ROAD, less ahead of more: 10 times ROAD, and 0 less or 1 more; NONE" */
    private static void deceiveLike() {
        // More on ROAD 0 or less on ROADS 1, 2 do the same.
        Check.due("ROAD 0 more", Check.of("m3 1 9;r0 1 5 9 0;r0 2 9 5 0;r2 1 9 4 0;").deceive(0, 1), 1);
        Check.due("it goes there already", Check.of("m3 1 9;r0 2 9 5 0;r0 1 5 9 0;r2 1 9 4 0;").deceive(0, 1), Check.NONE);
        // As far is enough when it begins by a lesser ROAD, so it hangs on whence the army comes.
        MovedStones x = Check.of("m3 1 9;r2 1 9 5 0;r0 1 5 9 0;r0 2 9 5 0;");
        Check.due("from 0: as far by ROADS 2, 0", x.deceive(0, 1), Check.NONE);
        Check.due("from 1: as far by ROADS 0, 2: ROAD 0 less", x.deceive(1, 0), 0);
        // The last ROAD that there may be, and no other.
        String others = "m6 1 9;r0 1 1 9 0;r0 2 1 9 0;r0 3 1 9 0;r1 2 1 9 0;r1 3 1 9 0;r2 3 1 9 0;";
        Check.due("ROAD 6 less", Check.of(others + "r0 4 9 5 0;r4 5 9 5 0;r0 5 1 9 0;").deceive(0, 5), 60);
        Check.due("ROAD 7 less", Check.of(others + "r0 4 9 1 0;r4 5 9 9 0;r0 5 1 9 0;").deceive(0, 5), 70);
        Check.due("ROAD 8 more", Check.of(others + "r0 4 9 1 0;r4 5 9 1 0;r0 5 1 1 0;").deceive(0, 5), 81);
    }

    /** "how many thousandths (cut) of its MILES are on ROADS of that COUNTY; NONE: no WAY" */
    private static void feeParts() {
        MovedStones x = Check.of("m3 3 9;r0 1 5 1 0;r1 2 5 2 1;");
        Check.due("a third", x.fee(0, 2, 0), 333);
        Check.due("two thirds", x.fee(0, 2, 1), 666);
        Check.due("nothing", x.fee(0, 2, 2), 0);
        Check.due("all", x.fee(0, 1, 0), 1000);
        x = Check.of("m3 2 9;r0 1 5 99 0;r1 2 5 1 1;");
        Check.due("99 of 100", x.fee(0, 2, 0), 990);
        Check.due("1 of 100", x.fee(2, 0, 1), 10);
        x.shift(0, 9);
        Check.due("108 of 109", x.fee(0, 2, 0), 990);
        Check.due("1 of 109", x.fee(0, 2, 1), 9);
        // The way by MILES, of like ones the first: by ROAD 0 of COUNTY 1.
        x = Check.of("m3 2 9;r0 2 5 4 1;r0 1 5 2 0;r1 2 5 2 0;");
        Check.due("as for TRUE", x.fee(0, 2, 1), 1000);
        Check.due("not the other", x.fee(0, 2, 0), 0);
        x = Check.of("m3 2 9;r0 1 5 2 0;r1 2 5 2 0;r0 2 5 4 1;");
        Check.due("as for TRUE", x.fee(0, 2, 1), 0);
        Check.due("two ROADS of one COUNTY", x.fee(0, 2, 0), 1000);
    }

    /** "FEE; NONE. UNKNOWN." */
    private static void feeUnknown() {
        int[] unknown = {-1, 2, 4, Check.LOW, Check.HIGH};
        for (int county : unknown) {
            Twins.unchanged("fee(0, 1, " + county + ")", Twins::rich, x -> x.fee(0, 1, county), Check.UNKNOWN);
            Twins.unchanged("fee(0, 0, " + county + ")", Twins::rich, x -> x.fee(0, 0, county), Check.UNKNOWN);
            Twins.unchanged("owes(" + county + ")", Twins::rich, x -> x.owes(county), Check.UNKNOWN);
        }
        for (int counties = 1; counties <= 4; counties++) {
            MovedStones x = Check.of("m2 " + counties + " 1;r0 1 5 5 0;");
            for (int county = -1; county <= 4; county++) {
                boolean known = county >= 0 && county < counties;
                Check.due("fee of " + county, x.fee(0, 1, county), !known ? Check.UNKNOWN : county == 0 ? 1000 : 0);
                Check.due("owes of " + county, x.owes(county), known ? 1000 : Check.UNKNOWN);
            }
        }
    }

    /** "OWES: MILES less FEET of all its ROADS together (may be below 0), and 1000" */
    private static void owesBounds() {
        StringBuilder low = new StringBuilder("m6 1 9;");
        StringBuilder high = new StringBuilder("m6 1 9;");
        int put = 0;
        for (int a = 0; a < 6; a++) {
            for (int b = a + 1; b < 6 && put < 9; b++) {
                low.append("r" + a + " " + b + " 99 1 0;");
                high.append("r" + a + " " + b + " 1 99 0;");
                put++;
            }
        }
        Check.due("the least there can be", Check.of(low.toString()).owes(0), 118);
        Check.due("the most that can be told", Check.of(high.toString()).owes(0), 1882);
        MovedStones x = Check.of(Lands.GREAT);
        int[] due = {1000 + 10 + 10 - 98, 1020, 1020, 1020};
        for (int county = 0; county < 4; county++) {
            Check.due("owes(" + county + ")", x.owes(county), due[county]);
        }
        Check.due("owes(4)", x.owes(4), Check.UNKNOWN);
        x.shift(8, 9);
        Check.due("by MILES now", x.owes(0), 931);
        x.strike();
        Check.due("nothing", x.owes(0), 1000);
    }

    private static boolean holds(int k, int v, int sum) {
        return k == 0 ? sum == v : k == 1 ? sum <= v : sum >= v;
    }

    /**
     * "the first pair of TREATIES (10 times the lesser and the other) of the same ROADS that cannot both HOLD, by K and V, whatever
     * the MILES together (1 or more for each ROAD) are; NONE"
     */
    private static void clashes() {
        int[] values = {0, 1, 2, 3, 4, 998, 999};
        for (int roads = 1; roads <= 3; roads++) {
            String set = "0,1,2".substring(0, 2 * roads - 1);
            for (int one = 0; one < 3 * values.length; one++) {
                for (int two = 0; two < 3 * values.length; two++) {
                    int v = values[one / 3];
                    int w = values[two / 3];
                    boolean can = false;
                    for (int sum = roads; sum <= 2000; sum++) {
                        can |= holds(one % 3, v, sum) && holds(two % 3, w, sum);
                    }
                    String treaties = "t" + one % 3 + " " + set + " " + v + ";t" + two % 3 + " " + set + " " + w + ";";
                    MovedStones x = Check.of("m3 1 1;r0 1 5 5 0;r1 2 5 5 0;r2 0 5 5 0;" + treaties);
                    Check.due("clash of " + treaties, x.clash(), can ? Check.NONE : 1);
                }
            }
        }
        String other = "m3 1 1;r0 1 5 5 0;r1 2 5 5 0;t0 0 5;t0 1 6;t0 0,1 7;";
        Check.due("other ROADS", Check.of(other).clash(), Check.NONE);
        Check.due("one TREATY that cannot HOLD has no pair", Check.of("m2 1 1;r0 1 5 5 0;t0 0 0;").clash(), Check.NONE);
        Check.due("without TREATIES", Check.of("m2 1 1;").clash(), Check.NONE);
    }

    /** "CLASH: the first pair of TREATIES (10 times the lesser and the other)": each pair of six. */
    private static void clashTheFirst() {
        for (int t = 0; t < 6; t++) {
            for (int u = t + 1; u < 6; u++) {
                StringBuilder text = new StringBuilder("m2 1 1;r0 1 5 5 0;");
                for (int i = 0; i < 6; i++) {
                    text.append(i == t ? "t1 0 4;" : i == u ? "t2 0 5;" : "t2 0 4;");
                }
                Check.due("the pair " + t + ", " + u, Check.of(text.toString()).clash(), 10 * t + u);
            }
        }
        MovedStones x = Check.of("m2 1 1;r0 1 5 5 0;t2 0 5;t1 0 9;t1 0 8;t0 0 9;t1 0 4;t0 0 3;");
        Check.due("0 and 4 ahead of 2 and 3", x.clash(), 4);
        Check.due("also when they HOLD by no MILES now", x.told(9), 7);
    }

    /** "RATE of a letter: its WAY by MILES: 2 for up to 10 MILES, 1 more for each 10 begun; NONE" */
    private static void rates() {
        for (int miles = 1; miles <= 99; miles++) {
            MovedStones x = Check.of("m3 1 9;r0 1 5 " + miles + " 0;");
            int due = miles <= 10 ? 2 : 2 + (miles - 10 + 9) / 10;
            Check.due("rate of " + miles, x.rate(0, 1), due);
            Check.due("no WAY", x.rate(0, 2), Check.NONE);
        }
        MovedStones x = Check.of("m2 1 9;r0 1 5 99 0;");
        x.shift(0, 1);
        Check.due("100 MILES", x.rate(0, 1), 11);
        x.year(1);
        x.shift(0, 1);
        Check.due("101 MILES", x.rate(0, 1), 12);
        x.strike();
        Check.due("5 MILES", x.rate(0, 1), 2);
    }
}
