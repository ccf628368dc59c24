/** Promises 13 to 24: what is tried, and changes nothing. */
public final class TriedTest {
    // From 0 to 3 there are two ways of like MILES, by other FEET each.
    private static final String FORK = "m5 2 9;r1 3 50 5 1;r0 2 4 5 0;r0 1 6 5 0;r2 3 7 5 0;";

    public static void main(String[] args) {
        unknownTowns();
        ways();
        truly();
        adds();
        mends();
        wants();
        dawns();
        rounds();
        deceives();
        fees();
        owes();
        clashes();
        rates();
        Check.end();
    }

    private static void unknownTowns() {
        MovedStones x = Check.of(FORK);
        int[][] pairs = {{0, 0}, {4, 4}, {5, 0}, {0, 5}, {-1, 0}, {0, -1}, {Check.LOW, 0}, {0, Check.HIGH}, {7, 7}};
        for (int[] pair : pairs) {
            int a = pair[0];
            int b = pair[1];
            String towns = "(" + a + ", " + b + ")";
            Check.due("way" + towns, x.way(a, b, false), Check.UNKNOWN);
            Check.due("way by FEET" + towns, x.way(a, b, true), Check.UNKNOWN);
            Check.due("truly" + towns, x.truly(a, b, -1), Check.UNKNOWN);
            Check.due("truly, far" + towns, x.truly(a, b, 99), Check.UNKNOWN);
            Check.due("deceive" + towns, x.deceive(a, b), Check.UNKNOWN);
            Check.due("fee" + towns, x.fee(a, b, 0), Check.UNKNOWN);
            Check.due("rate" + towns, x.rate(a, b), Check.UNKNOWN);
        }
    }

    private static void ways() {
        MovedStones x = Check.of(MarchTest.TEXT);
        Check.due("way(0, 3)", x.way(0, 3, false), 30);
        Check.due("way(3, 0)", x.way(3, 0, false), 30);
        Check.due("way(0, 3) by FEET", x.way(0, 3, true), 23);
        Check.due("way(1, 4)", x.way(1, 4, false), 20);
        Check.due("way(1, 4) by FEET", x.way(1, 4, true), 21);
        x.shift(0, 4);
        Check.due("way(0, 3) then", x.way(0, 3, false), 34);
        Check.due("way(0, 3) by FEET then", x.way(0, 3, true), 23);
        x = Check.of(FORK);
        Check.due("no way", x.way(0, 4, false), Check.NONE);
        Check.due("no way by FEET", x.way(4, 0, true), Check.NONE);
    }

    private static void truly() {
        MovedStones x = Check.of(FORK);
        Check.due("FEET", x.truly(0, 3, -1), 11);
        Check.due("ROAD 0", x.truly(0, 3, 0), 1);
        Check.due("ROAD 1", x.truly(0, 3, 1), 3);
        Check.due("ROAD 2", x.truly(0, 3, 2), Check.NONE);
        Check.due("ROAD -2", x.truly(0, 3, -2), Check.NONE);
        Check.due("ROAD LOW", x.truly(0, 3, Check.LOW), Check.NONE);
        Check.due("ROAD HIGH", x.truly(0, 3, Check.HIGH), Check.NONE);
        Check.due("FEET back", x.truly(3, 0, -1), 56);
        Check.due("ROAD 0 back", x.truly(3, 0, 0), 0);
        Check.due("ROAD 1 back", x.truly(3, 0, 1), 2);
        Check.due("no way", x.truly(0, 4, -1), Check.NONE);
        Check.due("no way's ROAD", x.truly(0, 4, 0), Check.NONE);
    }

    private static void adds() {
        Check.due("no TOWNS", new MovedStones().adds(), Check.NONE);
        Check.due("no three", Check.of(FORK).adds(), Check.NONE);
        MovedStones x = Check.of("m6 1 9;r3 5 1 10 0;r5 4 1 4 0;r4 3 1 6 0;r1 4 1 3 0;r1 3 1 3 0;");
        Check.due("as much, then 1 more", x.adds(), Check.NONE);
        x.shift(0, 1);
        Check.due("more", x.adds(), 345);
        x.shift(3, 7);
        Check.due("the first", x.adds(), 134);
        x.year(1);
        x.shift(3, -1);
        Check.due("as much again", x.adds(), 345);
        Check.due("ROAD of the lesser TOWNS", Check.of("m3 1 1;r0 1 1 9 0;r1 2 1 4 0;r0 2 1 4 0;").adds(), 12);
    }

    private static void mended(String text, int total, int... changes) {
        MovedStones x = Check.of(text);
        Check.due("mend(-1) of " + text, x.mend(-1), total);
        for (int r = 0; r < changes.length; r++) {
            Check.due("mend(" + r + ") of " + text, x.mend(r), total == Check.NONE ? Check.NONE : changes[r] + 100);
        }
        Check.due("mend of no ROAD of " + text, x.mend(changes.length), Check.UNKNOWN);
        Check.due("mend(-2) of " + text, x.mend(-2), Check.UNKNOWN);
    }

    private static void mends() {
        Check.due("no TOWNS", new MovedStones().mend(-1), 0);
        Check.due("no ROAD", new MovedStones().mend(0), Check.UNKNOWN);
        mended("m2 1 1;r0 1 5 5 0;", 0, 0);
        mended("m2 1 1;r0 1 5 5 0;t0 0 7;", 2, 2);
        mended("m2 1 1;r0 1 5 5 0;t0 0 9;", 4, 4);
        mended("m2 1 1;r0 1 5 5 0;t0 0 10;", Check.NONE, 0);
        mended("m2 1 1;r0 1 5 5 0;t1 0 4;", 1, -1);
        mended("m2 1 1;r0 1 5 5 0;t1 0 1;", 4, -4);
        mended("m2 1 1;r0 1 5 4 0;t1 0 0;", Check.NONE, 0);
        mended("m2 1 1;r0 1 5 5 0;t2 0 4;", 0, 0);
        String two = "m3 1 1;r0 1 5 5 0;r1 2 5 5 0;";
        mended(two + "t0 0,1 12;", 2, 0, 2);
        mended(two + "t0 0,1 8;", 2, -2, 0);
        mended(two + "t0 0,1 10;t2 1 6;", 2, -1, 1);
        mended(two + "t0 0,1 11;t1 1 4;", 3, 2, -1);
        mended(two + "t1 0 4;t2 0 5;", Check.NONE, 0, 0);
        mended("m3 1 1;r0 1 5 1 0;r1 2 5 5 0;t0 0,1 4;", 2, 0, -2);
        MovedStones x = Check.of(two + "t0 0,1 12;");
        x.shift(0, 1);
        Check.due("from MILES now", x.mend(-1), 1);
        Check.due("MILES stay", x.told(13), 11);
    }

    private static void wants() {
        MovedStones x = Check.of(MarchTest.TEXT);
        for (int r = 0; r < 5; r++) {
            Check.due("want(" + r + ", 999)", x.want(r, 999), r + 1);
        }
        Check.due("of a sixth", x.want(5, 1), Check.FULL);
        Check.due("of one of the five", x.want(4, 1), 5);
        Check.due("no more of a sixth", x.want(5, 0), 5);
        Check.due("1000 of a sixth", x.want(5, 1000), Check.OUTSIDE);
        Check.due("-1", x.want(0, -1), Check.OUTSIDE);
        Check.due("1000", x.want(0, 1000), Check.OUTSIDE);
        Check.due("no ROAD", x.want(6, 1000), Check.UNKNOWN);
        Check.due("no ROAD", x.want(-1, 1), Check.UNKNOWN);
        Check.due("MILES WANTED", x.road(4, 6), 1);
        Check.due("no more", x.want(4, 0), 4);
        Check.due("NONE WANTED", x.road(4, 6), Check.NONE);
        Check.due("a SET", x.told(16), 15);
        Check.due("of another", x.want(5, 1), 5);
        Check.due("a SET", x.told(16), 47);
    }

    private static void dawns() {
        Check.due("no TOWNS", new MovedStones().dawns(-1), 0);
        MovedStones x = Check.of("m4 1 9;r0 1 5 10 0;r1 2 5 10 0;r2 3 5 10 0;t1 0,1 20;t2 1,2 20;t0 0 99;");
        x.want(0, 12);
        x.want(1, 8);
        Check.due("no such", x.dawns(-1), Check.NONE);
        Check.due("no such one", x.dawns(0), Check.NONE);
        x.want(2, 12);
        int[] want = {2, 1, 0};
        Check.due("how many", x.dawns(-1), 3);
        for (int i = 0; i < 3; i++) {
            Check.due("dawns(" + i + ")", x.dawns(i), want[i]);
        }
        Check.due("dawns(3)", x.dawns(3), Check.NONE);
        Check.due("dawns(-2)", x.dawns(-2), Check.NONE);
        Check.due("dawns(HIGH)", x.dawns(Check.HIGH), Check.NONE);
        x.want(0, 9);
        Check.due("the lesser ROAD first", x.dawns(0), 0);
        Check.due("then as it must be", x.dawns(1), 2);
        x.want(0, 10);
        Check.due("what is so already is no night", x.dawns(-1), 2);
        Check.due("MILES stay", x.told(13), 30);
        x.tear();
        Check.due("nothing wanted", x.dawns(-1), 0);
        Check.due("nothing wanted: none", x.dawns(0), Check.NONE);
    }

    private static void rounds() {
        Check.due("no TOWNS", new MovedStones().round(0), Check.NONE);
        Check.due("no TOWNS, outside", new MovedStones().round(3), Check.OUTSIDE);
        MovedStones x = Check.of("m3 1 1;r0 1 9 1 0;r1 2 9 1 0;r0 2 9 1 0;");
        Check.due("below 0", x.round(0), 976);
        Check.due("TOWNS", x.round(1), 7);
        Check.due("ROADS", x.round(2), 7);
        Check.due("round(-1)", x.round(-1), Check.OUTSIDE);
        Check.due("round(HIGH)", x.round(Check.HIGH), Check.OUTSIDE);
        Check.due("no round", Check.of("m4 1 1;r0 1 9 1 0;r1 2 9 1 0;r2 3 9 1 0;").round(0), Check.NONE);
        // 0-1-2 and 1-2-3 are paid alike, as is 0-1-3-2 about them.
        x = Check.of("m4 1 1;r2 3 1 3 0;r1 3 1 3 0;r1 2 5 5 0;r0 1 3 5 0;r0 2 3 5 0;");
        Check.due("of like ones: how much", x.round(0), 1008);
        Check.due("all four TOWNS", x.round(1), 15);
        Check.due("their ROADS", x.round(2), 27);
        x = Check.of("m4 1 1;r2 3 1 3 0;r1 3 1 3 0;r1 2 9 5 0;r0 1 5 3 0;r0 2 1 3 0;");
        Check.due("1-2-3, 0-1-2: the four are best", x.round(1), 15);
        x = Check.of("m5 1 1;r2 3 1 3 0;r1 3 1 3 0;r1 2 1 1 0;r1 0 1 3 0;r0 4 1 3 0;r4 1 1 1 0;");
        Check.due("two apart, alike", x.round(0), 1004);
        Check.due("the least SET of TOWNS", x.round(1), 14);
        Check.due("its ROADS", x.round(2), 7);
        x = Check.of("m6 1 1;r0 1 1 9 0;r1 2 1 9 0;r2 3 1 9 0;r3 4 1 9 0;r4 5 1 9 0;r5 0 1 9 0;r0 3 9 9 0;r1 4 9 9 0;r2 5 9 9 0;");
        Check.due("a round of all six", x.round(0), 1048);
        Check.due("all six TOWNS", x.round(1), 63);
        Check.due("six of nine ROADS", x.round(2), 63);
        x = Check.of("m4 1 9;r2 3 1 1 0;r1 3 1 1 0;r0 2 1 1 0;r0 1 1 1 0;r0 3 1 1 0;r1 2 1 1 0;");
        Check.due("all alike", x.round(1), 7);
        x.shift(4, 1);
        x.shift(5, 1);
        Check.due("of four TOWNS with both", x.round(0), 1002);
        Check.due("the least SET of ROADS", x.round(2), 54);
    }

    private static void deceives() {
        MovedStones x = Check.of(FORK);
        Check.due("the least ROAD, less", x.deceive(0, 3), 0);
        Check.due("back it goes there already", x.deceive(3, 0), Check.NONE);
        Check.due("no way", x.deceive(0, 4), Check.NONE);
        x = Check.of("m3 1 9;r0 1 5 9 0;r1 2 5 9 0;r0 2 50 19 0;");
        Check.due("as far is not enough for a later ROAD", x.deceive(0, 2), Check.NONE);
        Check.due("back that ROAD is as late", x.deceive(2, 0), Check.NONE);
        x = Check.of("m3 1 9;r0 2 50 19 0;r0 1 5 9 0;r1 2 5 9 0;");
        Check.due("as far is enough for the first ROAD", x.deceive(0, 2), 0);
        Check.due("its WAY stays", x.truly(0, 2, -1), 10);
        Check.due("MILES stay", x.told(13), 37);
        x = Check.of("m4 1 9;r0 2 50 1 0;r0 1 5 1 0;r1 3 5 2 0;r2 3 5 3 0;");
        Check.due("1 cannot be less, so one more", x.deceive(0, 3), 11);
    }

    private static void fees() {
        MovedStones x = Check.of(MarchTest.TEXT);
        Check.due("fee(0, 4, 0)", x.fee(0, 4, 0), 333);
        Check.due("fee(0, 4, 1)", x.fee(0, 4, 1), 666);
        Check.due("fee(0, 1, 0)", x.fee(0, 1, 0), 1000);
        Check.due("fee(0, 1, 1)", x.fee(0, 1, 1), 0);
        Check.due("fee(0, 1, 2)", x.fee(0, 1, 2), Check.UNKNOWN);
        Check.due("fee(0, 1, -1)", x.fee(0, 1, -1), Check.UNKNOWN);
        x = Check.of(FORK);
        Check.due("the first of like ones", x.fee(0, 3, 1), 0);
        Check.due("the first of like ones back", x.fee(3, 0, 1), 500);
        Check.due("no way", x.fee(0, 4, 0), Check.NONE);
        Check.due("no way, no COUNTY", x.fee(0, 4, 2), Check.UNKNOWN);
    }

    private static void owes() {
        MovedStones x = Check.of(MarchTest.TEXT);
        Check.due("owes(0)", x.owes(0), 1011);
        Check.due("owes(1)", x.owes(1), 996);
        x.shift(0, -4);
        Check.due("owes(0) then", x.owes(0), 1007);
        Check.due("owes(2)", x.owes(2), Check.UNKNOWN);
        Check.due("owes(-1)", x.owes(-1), Check.UNKNOWN);
        Check.due("owes without ROADS", Check.of("m2 4 1;").owes(3), 1000);
    }

    private static void clash(String treaties, int want) {
        Check.due("clash of " + treaties, Check.of("m3 1 1;r0 1 5 5 0;r1 2 5 5 0;" + treaties).clash(), want);
    }

    private static void clashes() {
        Check.due("no TOWNS", new MovedStones().clash(), Check.NONE);
        clash("t0 0 5;", Check.NONE);
        clash("t0 0 5;t0 0 5;", Check.NONE);
        clash("t0 0 5;t0 0 6;", 1);
        clash("t0 0 5;t0 1 6;t0 0,1 7;", Check.NONE);
        clash("t0 0 5;t0 1 6;t1 1 5;t1 0 4;", 3);
        clash("t2 1 6;t0 0 5;t1 1 6;t1 0 5;", Check.NONE);
        clash("t2 1 6;t0 0 5;t1 1 5;t1 0 4;", 2);
        clash("t2 1 999;t2 1 0;", Check.NONE);
        clash("t1 1 1;t1 1 999;", Check.NONE);
        clash("t1 1 0;t1 1 999;", 1);
        clash("t1 0,1 1;t2 0,1 1;", 1);
        clash("t1 0,1 2;t2 0,1 1;", Check.NONE);
        clash("t0 0,1 1;t2 0,1 1;", 1);
        clash("t2 0 1;t2 0 2;t0 0 3;t2 1 1;t0 1 5;t0 1 6;", 45);
    }

    private static void rates() {
        int[][] due = {{1, 2}, {9, 2}, {10, 2}, {11, 3}, {20, 3}, {21, 4}, {99, 11}};
        for (int[] pair : due) {
            MovedStones x = Check.of("m3 1 1;r0 1 5 " + pair[0] + " 0;");
            Check.due("rate of " + pair[0], x.rate(0, 1), pair[1]);
            Check.due("rate back of " + pair[0], x.rate(1, 0), pair[1]);
            Check.due("no way", x.rate(0, 2), Check.NONE);
        }
    }
}
