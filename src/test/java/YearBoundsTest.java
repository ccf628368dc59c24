/** The edges of section 2, YEARS, and of promises 8 to 12: each method says which sentence it holds. */
public final class YearBoundsTest {
    public static void main(String[] args) {
        richIsRich();
        shiftBounds();
        milesStay();
        onceAYear();
        byItsCounty();
        shiftRefusals();
        brokenForGood();
        theFirstIsKept();
        milesAtTheEndOfAYear();
        yearBounds();
        yearFull();
        yearsTogether();
        strikes();
        strikeRefused();
        driftBounds();
        driftFull();
        driftsByDraws();
        driftsTogether();
        shiftsThatMayNotBe();
        undoneOnes();
        twentyAtMost();
        doneAndUndoneByTurns();
        asAheadOfIt();
        notRefusedOnes();
        nothingElseIsUndone();
        noneToUndo();
        Check.end();
    }

    private static void richIsRich() {
        MovedStones x = new MovedStones();
        Twins.rich(x);
        int[] due = {5, 2, 4, 6, 4, 2, 5, 1, 2};
        for (int what = 0; what < due.length; what++) {
            Check.due("rich: told(" + what + ")", x.told(what), due[what]);
        }
        Check.due("rich: to be undone", x.told(17), 4);
        Check.due("rich: BROKEN", x.told(10), 15);
    }

    /** "(d -9 .. 9, not 0)"; "by S at most either way"; "OUTSIDE (d", "NOT: more than S" */
    private static void shiftBounds() {
        for (int s = 1; s <= 9; s++) {
            String text = "m2 1 " + s + ";r0 1 50 50 0;";
            for (int d = -11; d <= 11; d++) {
                int by = d;
                String what = "shift by " + d + " of " + s;
                if (d < -9 || d > 9 || d == 0) {
                    Twins.unchanged(what, x -> Check.march(x, text), x -> x.shift(0, by), Check.OUTSIDE);
                } else if (Math.abs(d) > s) {
                    Twins.unchanged(what, x -> Check.march(x, text), x -> x.shift(0, by), Check.NOT);
                } else {
                    MovedStones x = Check.of(text);
                    Check.due(what, x.shift(0, d), 50 + d);
                    Check.due(what + ": MILES", x.road(0, 3), 50 + d);
                }
            }
        }
        int[] far = {Check.LOW, Check.LOW + 1, Check.HIGH, Check.HIGH - 49};
        for (int d : far) {
            Twins.unchanged("shift by " + d, x -> Check.march(x, "m2 1 9;r0 1 50 50 0;"), x -> x.shift(0, d), Check.OUTSIDE);
        }
    }

    private static void at990(MovedStones x) {
        Check.march(x, "m2 1 9;r0 1 1 99 0;");
        for (int i = 0; i < 99; i++) {
            x.shift(0, 9);
            x.year(1);
        }
    }

    /** "(MILES stay 1 .. 999)"; "MILES would be below 1, above 999" */
    private static void milesStay() {
        for (int miles = 1; miles <= 10; miles++) {
            String text = "m2 1 9;r0 1 50 " + miles + " 0;";
            for (int d = -9; d < 0; d++) {
                int by = d;
                String what = "shift of " + miles + " by " + d;
                if (miles + d < 1) {
                    Twins.unchanged(what, x -> Check.march(x, text), x -> x.shift(0, by), Check.OUTSIDE);
                } else {
                    Check.due(what, Check.of(text).shift(0, d), miles + d);
                }
            }
        }
        MovedStones x = new MovedStones();
        at990(x);
        Check.due("990", x.road(0, 3), 990);
        Check.due("to 999", x.shift(0, 9), 999);
        x.year(1);
        for (int d = 1; d <= 9; d++) {
            Check.due("above 999", x.shift(0, d), Check.OUTSIDE);
        }
        Check.due("still 999", x.road(0, 3), 999);
        Check.due("not SHIFTED by it", x.told(8), 0);
        Check.due("down", x.shift(0, -4), 995);
        x.year(1);
        Check.due("to 1000", x.shift(0, 5), Check.OUTSIDE);
        Check.due("to 999", x.shift(0, 4), 999);
    }

    /** "once a year each"; "it was SHIFTED this year" */
    private static void onceAYear() {
        Twins.Past past = x -> {
            Check.march(x, "m3 1 9;r0 1 50 50 0;r1 2 50 50 0;");
            x.shift(1, 3);
        };
        Twins.unchanged("again", past, x -> x.shift(1, 3), Check.NOT);
        Twins.unchanged("back again", past, x -> x.shift(1, -3), Check.NOT);
        MovedStones x = new MovedStones();
        past.on(x);
        Check.due("each ROAD for itself", x.shift(0, 3), 53);
        Check.due("then neither", x.shift(0, 3), Check.NOT);
        x.year(1);
        Check.due("next YEAR", x.shift(1, 3), 56);
        Check.due("next YEAR, both", x.shift(0, 3), 56);
        MovedStones y = Check.of(Lands.of(1, 9, 9));
        for (int r = 0; r < 9; r++) {
            Check.due("each of nine", y.shift(r, 1) > 0);
            Check.due("each of nine but once", y.shift(r, 1), Check.NOT);
            Check.due("SHIFTED ones", y.told(8), (2 << r) - 1);
        }
    }

    /** "by its COUNTY, when it has the RIGHT"; "its COUNTY has no RIGHT" */
    private static void byItsCounty() {
        for (int counties = 1; counties <= 4; counties++) {
            for (int county = 0; county < counties; county++) {
                MovedStones x = Check.of("m2 " + counties + " 9;r0 1 50 50 " + county + ";");
                int miles = 50;
                for (int year = 0; year < 9; year++) {
                    if (year % counties == county) {
                        miles++;
                        Check.due("with the RIGHT", x.shift(0, 1), miles);
                    } else {
                        Check.due("without the RIGHT", x.shift(0, 1), Check.NOT);
                        Check.due("not SHIFTED", x.told(8), 0);
                    }
                    x.year(1);
                }
            }
        }
        Twins.unchanged("without the RIGHT", x -> Check.march(x, "m2 2 9;r0 1 50 50 1;"), x -> x.shift(0, 1), Check.NOT);
    }

    /** "A SHIFT (d -9 .. 9, not 0): MILES then. UNKNOWN, OUTSIDE" and NOT: the first of several. */
    private static void shiftRefusals() {
        int[] unknown = {-1, 6, 9, 31, 32, Check.LOW, Check.HIGH};
        int[] any = {1, 0, 10, -10, 5, Check.LOW};
        for (int r : unknown) {
            for (int d : any) {
                Twins.unchanged("shift(" + r + ", " + d + ")", Twins::rich, x -> x.shift(r, d), Check.UNKNOWN);
            }
        }
        // ROAD 1 was SHIFTED this year, ROAD 0 has no RIGHT: d is looked at first.
        int[] outside = {0, 10, -10};
        for (int d : outside) {
            Twins.unchanged("SHIFTED, by " + d, Twins::rich, x -> x.shift(1, d), Check.OUTSIDE);
            Twins.unchanged("no RIGHT, by " + d, Twins::rich, x -> x.shift(0, d), Check.OUTSIDE);
        }
        Twins.unchanged("no RIGHT, MILES 0", Twins::rich, x -> x.shift(0, -9), Check.OUTSIDE);
        Twins.unchanged("no RIGHT, MILES 1, more than S", Twins::rich, x -> x.shift(0, -8), Check.NOT);
        Twins.unchanged("no RIGHT", Twins::rich, x -> x.shift(0, 1), Check.NOT);
        Twins.unchanged("SHIFTED", Twins::rich, x -> x.shift(1, 1), Check.NOT);
        Twins.Past low = x -> {
            Check.march(x, "m2 1 3;r0 1 50 4 0;");
            x.shift(0, -3);
        };
        Twins.unchanged("SHIFTED, MILES 0", low, x -> x.shift(0, -1), Check.OUTSIDE);
        Twins.unchanged("SHIFTED, MILES 0, more than S", low, x -> x.shift(0, -4), Check.OUTSIDE);
        Twins.unchanged("SHIFTED, more than S", low, x -> x.shift(0, 4), Check.NOT);
        Twins.Past high = x -> {
            at990(x);
            x.shift(0, 9);
        };
        Twins.unchanged("SHIFTED, MILES 1000", high, x -> x.shift(0, 1), Check.OUTSIDE);
        Twins.unchanged("SHIFTED, MILES 998", high, x -> x.shift(0, -1), Check.NOT);
    }

    /** "A YEAR goes by: TREATIES that do not HOLD then are BROKEN (for good)" */
    private static void brokenForGood() {
        MovedStones x = Check.of("m2 1 9;r0 1 5 5 0;t1 0 5;t0 0 5;t2 0 5;");
        x.year(1);
        Check.due("all HOLD", x.told(10), 0);
        x.shift(0, 1);
        Check.due("in the YEAR nothing is BROKEN", x.told(10), 0);
        x.strike();
        x.year(1);
        Check.due("they HOLD then", x.told(10), 0);
        x.shift(0, 1);
        x.year(1);
        Check.due("BROKEN", x.told(10), 3);
        x.shift(0, -1);
        x.year(1);
        Check.due("they HOLD", x.told(9), 7);
        Check.due("for good", x.told(10), 3);
        x.shift(0, -1);
        x.year(1);
        Check.due("the others are BROKEN, too", x.told(10), 7);
    }

    /** "the first of them, and its YEAR, are kept" */
    private static void theFirstIsKept() {
        MovedStones x = Check.of("m2 1 9;r0 1 5 5 0;t2 0 5;t2 0 4;t1 0 5;t1 0 5;");
        x.year(7);
        x.shift(0, 1);
        x.year(5);
        Check.due("the first of two", x.told(11), 2);
        Check.due("the first of five YEARS", x.told(12), 7);
        x.shift(0, -2);
        x.year(1);
        Check.due("a lesser one is BROKEN", x.told(10), 13);
        Check.due("the first is kept", x.told(11), 2);
        Check.due("its YEAR is kept", x.told(12), 7);
        MovedStones y = Check.of("m2 1 9;r0 1 5 5 0;t0 0 6;");
        y.year(99);
        Check.due("in YEAR 0", y.told(12), 0);
    }

    /** "nothing is SHIFTED this year yet": when a YEAR has gone by MILES stay, what was SHIFTED is forgotten. */
    private static void milesAtTheEndOfAYear() {
        MovedStones x = Check.of("m3 1 9;r0 1 5 5 0;r1 2 6 6 0;");
        x.shift(0, 4);
        x.shift(1, 4);
        Check.due("SHIFTED", x.told(8), 3);
        Check.due("year(1)", x.year(1), 1);
        Check.due("nothing SHIFTED", x.told(8), 0);
        Check.due("MILES", x.told(13), 19);
    }

    /** "n YEARS go by (1 .. 99): YEAR. OUTSIDE, NOT: no TOWNS" */
    private static void yearBounds() {
        MovedStones x = Check.of("m2 1 1;");
        Check.due("year(1)", x.year(1), 1);
        Check.due("year(99)", x.year(99), 100);
        int[] outside = {0, -1, 100, -99, Check.LOW, Check.HIGH};
        for (int n : outside) {
            Twins.unchanged("year(" + n + ")", Twins::rich, y -> y.year(n), Check.OUTSIDE);
            Twins.unchanged("no TOWNS: year(" + n + ")", y -> { }, y -> y.year(n), Check.OUTSIDE);
        }
        Twins.unchanged("no TOWNS: year(1)", y -> { }, y -> y.year(1), Check.NOT);
        Twins.unchanged("no TOWNS: year(99)", y -> { }, y -> y.year(99), Check.NOT);
        Twins.unchanged("no TOWNS any more: year(1)", YearBoundsTest::noMore, y -> y.year(1), Check.NOT);
    }

    private static void noMore(MovedStones x) {
        Check.march(x, MarchTest.TEXT);
        x.year(3);
        x.march();
    }

    private static void at9000(MovedStones x) {
        Check.march(x, "m2 2 1;r0 1 5 6 0;t0 0 6;");
        for (int i = 0; i < 90; i++) {
            x.year(99);
        }
        x.year(90);
    }

    /** "FULL: YEAR is above 9000." */
    private static void yearFull() {
        MovedStones x = new MovedStones();
        at9000(x);
        Check.due("YEAR", x.told(6), 9000);
        Check.due("year(1) at 9000", x.year(1), 9001);
        Check.due("year(1) at 9001", x.year(1), Check.FULL);
        Twins.Past last = y -> {
            at9000(y);
            Check.due("year(99) at 9000", y.year(99), 9099);
        };
        Twins.unchanged("year(1) at 9099", last, y -> y.year(1), Check.FULL);
        Twins.unchanged("year(99) at 9099", last, y -> y.year(99), Check.FULL);
        Twins.unchanged("year(0) at 9099", last, y -> y.year(0), Check.OUTSIDE);
        Twins.unchanged("year(100) at 9099", last, y -> y.year(100), Check.OUTSIDE);
        MovedStones z = new MovedStones();
        last.on(z);
        Check.due("a shift is none of them", z.shift(0, 1), Check.NOT);
        Check.due("a strike is none of them", z.strike(), 1);
        z.undo();
        z.undo();
        Check.due("undone it is 9000", z.year(1), 9001);
        Check.due("a shift in an odd YEAR", z.shift(0, 1), Check.NOT);
    }

    /** "n YEARS go by": as one at a time, but for what can be undone. */
    private static void yearsTogether() {
        Twins.alike("year(5)", x -> {
            Check.march(x, MarchTest.TEXT);
            x.shift(0, 1);
            x.year(5);
            x.keep(0);
        }, x -> {
            Check.march(x, MarchTest.TEXT);
            x.shift(0, 1);
            for (int i = 0; i < 5; i++) {
                x.year(1);
            }
            x.keep(0);
        });
    }

    /** "STRIKE: MILES of all ROADS are as many as FEET"; "A STRIKE: how many ROADS had other MILES." */
    private static void strikes() {
        MovedStones x = Check.of(Lands.GREAT);
        x.shift(0, 1);
        Check.due("all nine", x.strike(), 9);
        Check.due("SHIFTED", x.told(8), 0);
        for (int r = 0; r < 9; r++) {
            Check.due("MILES of " + r, x.road(r, 3), x.road(r, 2));
        }
        Check.due("none", x.strike(), 0);
        Check.due("YEAR", x.told(6), 0);
        Check.due("BROKEN", x.told(10), 0);
        Check.due("one shifted", x.shift(8, -9), 90);
        Check.due("SHIFTED", x.told(8), 256);
        Check.due("one", x.strike(), 1);
        Check.due("once more this year", x.shift(8, -1), 98);
        Check.due("without ROADS", Check.of("m2 1 1;").strike(), 0);
    }

    /** "NOT: no TOWNS." */
    private static void strikeRefused() {
        Twins.unchanged("strike", x -> { }, MovedStones::strike, Check.NOT);
        Twins.unchanged("strike, no TOWNS any more", YearBoundsTest::noMore, MovedStones::strike, Check.NOT);
        Twins.unchanged("strike behind a FAULT", x -> Check.march(x, "m2 1 1"), MovedStones::strike, Check.NOT);
    }

    /** "n YEARS BY DRAWS (1 .. 99): YEAR. OUTSIDE, NOT: no TOWNS" */
    private static void driftBounds() {
        MovedStones x = Check.of("m2 1 1;");
        Check.due("drift(1)", x.drift(1), 1);
        Check.due("drift(99)", x.drift(99), 100);
        int[] outside = {0, -1, 100, -99, Check.LOW, Check.HIGH};
        for (int n : outside) {
            Twins.unchanged("drift(" + n + ")", Twins::rich, y -> y.drift(n), Check.OUTSIDE);
            Twins.unchanged("no TOWNS: drift(" + n + ")", y -> { }, y -> y.drift(n), Check.OUTSIDE);
        }
        Twins.unchanged("no TOWNS: drift(1)", y -> y.seed(5), y -> y.drift(1), Check.NOT);
        Twins.unchanged("no TOWNS: drift(99)", y -> y.seed(5), y -> y.drift(99), Check.NOT);
        Twins.unchanged("no TOWNS any more: drift(1)", YearBoundsTest::noMore, y -> y.drift(1), Check.NOT);
    }

    /** "drift": "FULL: YEAR is above 9000." */
    private static void driftFull() {
        MovedStones x = new MovedStones();
        at9000(x);
        Check.due("drift(1) at 9000", x.drift(1), 9001);
        Check.due("drift(1) at 9001", x.drift(1), Check.FULL);
        Twins.Past last = y -> {
            at9000(y);
            Check.due("drift(99) at 9000", y.drift(99), 9099);
        };
        Twins.unchanged("drift(1) at 9099", last, y -> y.drift(1), Check.FULL);
        Twins.unchanged("drift(0) at 9099", last, y -> y.drift(0), Check.OUTSIDE);
        Twins.unchanged("drift(100) at 9099", last, y -> y.drift(100), Check.OUTSIDE);
    }

    private static long next(long seed) {
        return (seed * 1103515245L + 12345L) % 2147483648L;
    }

    /**
     * "in each a DRAW of 12: on 0 a STRIKE; else a DRAW of ROADS (if there are any), a DRAW of 2 S and 1, less S: that SHIFT, if it
     * may be (0: none); then the YEAR goes by": by any number of ROADS, COUNTIES and S.
     */
    private static void driftsByDraws() {
        for (int roads = 0; roads <= 9; roads++) {
            for (int s = 1; s <= 9; s += 4) {
                drifts(1, s, roads);
                drifts(2, s, roads);
                drifts(4, s, roads);
            }
        }
    }

    private static void drifts(int counties, int s, int roads) {
        String told = Lands.of(counties, s, roads);
        MovedStones x = Check.of(told);
        long seed = 0;
        int[] miles = new int[roads];
        for (int r = 0; r < roads; r++) {
            miles[r] = x.road(r, 4);
        }
        for (int year = 0; year < 60; year++) {
            seed = next(seed);
            if (seed / 65536 % 12 == 0) {
                for (int r = 0; r < roads; r++) {
                    miles[r] = x.road(r, 2);
                }
            } else {
                int r = 0;
                if (roads > 0) {
                    seed = next(seed);
                    r = (int) (seed / 65536 % roads);
                }
                seed = next(seed);
                int d = (int) (seed / 65536 % (2 * s + 1)) - s;
                if (roads > 0 && x.road(r, 5) == year % counties && miles[r] + d >= 1) {
                    miles[r] += d;
                }
            }
            Check.due(told + " drift(1)", x.drift(1), year + 1);
        }
        for (int r = 0; r < roads; r++) {
            Check.due(told + " behind: MILES of " + r, x.road(r, 3), miles[r]);
        }
        Check.due(told + " behind: THE SEED", x.seed(0), (int) seed);
    }

    /** "n YEARS BY DRAWS": as one at a time, but for what can be undone. */
    private static void driftsTogether() {
        Twins.alike("drift(99)", x -> {
            Check.march(x, MarchTest.TEXT);
            x.seed(2147483647);
            x.shift(0, 1);
            x.drift(99);
            x.keep(0);
        }, x -> {
            Check.march(x, MarchTest.TEXT);
            x.seed(2147483647);
            x.shift(0, 1);
            for (int i = 0; i < 99; i++) {
                x.drift(1);
            }
            x.keep(0);
        });
    }

    /** By how much the one ROAD of a land with S 9 is to be shifted when THE SEED is v; 10 on a STRIKE. */
    private static int drawnBy(int v) {
        long seed = next(v);
        return seed / 65536 % 12 == 0 ? 10 : (int) (next(next(seed)) / 65536 % 19) - 9;
    }

    private static int seedFor(int d) {
        int v = 0;
        while (drawnBy(v) != d) {
            v++;
        }
        return v;
    }

    private static void drawn(String what, Twins.Past past, int d, int due) {
        MovedStones x = new MovedStones();
        past.on(x);
        int v = seedFor(d);
        x.seed(v);
        x.drift(1);
        Check.due(what, x.road(0, 3), due);
        Check.due(what + ": THE SEED", x.seed(0), (int) (d == 10 ? next(v) : next(next(next(v)))));
    }

    private static Twins.Past land(int miles) {
        return x -> Check.march(x, "m2 1 9;r0 1 50 " + miles + " 0;");
    }

    /** "that SHIFT, if it may be (0: none)": not what was SHIFTED this year, not below 1, not above 999. */
    private static void shiftsThatMayNotBe() {
        drawn("a STRIKE", land(7), 10, 50);
        drawn("by 0", land(7), 0, 7);
        for (int d = 1; d <= 9; d++) {
            drawn("up", land(7), d, 7 + d);
            drawn("to 1", land(d + 1), -d, 1);
            drawn("below 1", land(d), -d, d);
        }
        Twins.Past shifted = x -> {
            land(7).on(x);
            x.shift(0, 1);
        };
        drawn("it was SHIFTED this year", shifted, 5, 8);
        drawn("it was SHIFTED this year, a STRIKE", shifted, 10, 50);
        drawn("its COUNTY has no RIGHT", x -> Check.march(x, "m2 2 9;r0 1 50 7 1;"), 5, 7);
        Twins.Past at999 = x -> {
            at990(x);
            x.shift(0, 9);
            x.year(1);
        };
        drawn("to 999", YearBoundsTest::at990, 9, 999);
        drawn("above 999", at999, 1, 999);
        drawn("far above 999", at999, 9, 999);
        drawn("down from 999", at999, -1, 998);
    }

    /** "UNDONE: the latest of shift(), year(), strike(), drift() that was not refused"; "The latest is undone: how many more can be." */
    private static void undoneOnes() {
        Twins.Call[] calls = {x -> x.shift(1, 2), x -> x.year(1), x -> x.year(99), MovedStones::strike, x -> x.drift(1), x -> x.drift(99)};
        for (int i = 0; i < calls.length; i++) {
            Twins.Call call = calls[i];
            Twins.Past past = x -> {
                Twins.rich(x);
                x.year(2);
                x.seed(1);
            };
            MovedStones x = new MovedStones();
            past.on(x);
            Check.due("call " + i + " is not refused", call.on(x) >= 0);
            Check.due("one more by call " + i, x.told(17), 6);
            Check.due("undo of call " + i, x.undo(), 5);
            Twins.alike("call " + i + " undone", y -> {
                past.on(y);
                call.on(y);
                y.undo();
                y.seed(1);
            }, past);
        }
    }

    /** "(20 at most are kept, the oldest are lost)" */
    private static void twentyAtMost() {
        for (int done = 19; done <= 45; done++) {
            MovedStones x = Check.of("m2 1 9;r0 1 5 5 0;");
            for (int i = 0; i < done; i++) {
                Check.due("can be undone", x.told(17), Math.min(i, 20));
                x.year(1);
            }
            int kept = Math.min(done, 20);
            for (int i = 1; i <= kept; i++) {
                Check.due("undo " + i + " of " + done, x.undo(), kept - i);
                Check.due("YEAR", x.told(6), done - i);
            }
            Check.due("no more of " + done, x.undo(), Check.NOT);
            Check.due("YEAR", x.told(6), done - kept);
            x.year(1);
            Check.due("once more", x.undo(), 0);
        }
    }

    /** "(20 at most are kept, the oldest are lost)": also when some were undone between. */
    private static void doneAndUndoneByTurns() {
        for (int undone = 0; undone <= 20; undone++) {
            MovedStones x = Check.of("m2 1 9;r0 1 5 5 0;");
            for (int i = 0; i < 25; i++) {
                x.year(1);
            }
            for (int i = 0; i < undone; i++) {
                x.undo();
            }
            // Those that come now are of 50 YEARS each, so that each YEAR tells which one it is.
            for (int i = 0; i < 15; i++) {
                x.year(50);
            }
            int kept = Math.min(20, 20 - undone + 15);
            Check.due("can be undone", x.told(17), kept);
            for (int i = 1; i <= kept; i++) {
                Check.due("undo", x.undo(), kept - i);
                Check.due("YEAR", x.told(6), i <= 15 ? 25 - undone + 50 * (15 - i) : 25 - undone - (i - 15));
            }
            Check.due("no more", x.undo(), Check.NOT);
        }
    }

    /** "MILES, SHIFTED ones, YEAR, what is BROKEN are as ahead of it; THE SEED stays." */
    private static void asAheadOfIt() {
        MovedStones x = Check.of("m2 1 9;r0 1 5 6 0;t0 0 5;t0 0 6;");
        x.shift(0, 2);
        x.drift(40);
        int seed = x.seed(0);
        x.seed(seed);
        Check.due("a SEED", seed != 0);
        Check.due("undo of the drift", x.undo(), 1);
        Check.due("MILES", x.road(0, 3), 8);
        Check.due("SHIFTED", x.told(8), 1);
        Check.due("YEAR", x.told(6), 0);
        Check.due("BROKEN", x.told(10), 0);
        Check.due("the first", x.told(11), Check.NONE);
        Check.due("its YEAR", x.told(12), Check.NONE);
        Check.due("THE SEED", x.seed(3), seed);
        Check.due("undo of the shift", x.undo(), 0);
        Check.due("MILES", x.road(0, 3), 6);
        Check.due("SHIFTED", x.told(8), 0);
        Check.due("THE SEED that was put", x.seed(0), 3);
        Check.due("it may be SHIFTED", x.shift(0, 9), 15);
        x = Check.of(Lands.GREAT);
        x.strike();
        x.undo();
        for (int r = 0; r < 9; r++) {
            Check.due("MILES of ROAD " + r, x.road(r, 3), x.road(r, 4));
        }
    }

    /** "that was not refused": what was refused is not undone. */
    private static void notRefusedOnes() {
        MovedStones x = Check.of("m2 2 9;r0 1 5 6 0;");
        x.year(4);
        x.shift(0, 0);
        x.shift(1, 1);
        x.year(0);
        x.year(100);
        x.drift(0);
        x.drift(100);
        x.shift(0, 1);
        x.shift(0, 1);
        Check.due("two", x.told(17), 2);
        Check.due("the shift", x.undo(), 1);
        Check.due("the year", x.undo(), 0);
        Check.due("YEAR", x.told(6), 0);
        Check.due("no more", x.undo(), Check.NOT);
    }

    /** "the latest of shift(), year(), strike(), drift()": of no others. */
    private static void nothingElseIsUndone() {
        MovedStones x = new MovedStones();
        Check.march(x, MarchTest.TEXT);
        x.year(2);
        x.want(0, 9);
        x.journey(1, 9);
        x.write(0, 9);
        x.seed(4);
        x.feed('m');
        x.mend(-1);
        x.dawns(-1);
        Check.due("one", x.told(17), 1);
        Check.due("undo", x.undo(), 0);
        Check.due("WANTED", x.road(0, 6), 9);
        Check.due("JOURNEYS", x.told(14), 1);
        Check.due("entries", x.told(15), 1);
        Check.due("letters", x.told(5), 1);
        Check.due("THE SEED", x.seed(0), 4);
        x.year(1);
        x.tear();
        Check.due("undo", x.undo(), 0);
        Check.due("JOURNEYS stay torn", x.told(14), 0);
    }

    /** "NOT: none." */
    private static void noneToUndo() {
        Twins.unchanged("new", x -> { }, MovedStones::undo, Check.NOT);
        Twins.unchanged("a march", x -> Check.march(x, MarchTest.TEXT), MovedStones::undo, Check.NOT);
        Twins.unchanged("all undone", x -> {
            Twins.rich(x);
            for (int i = 3; i >= 0; i--) {
                Check.due("undo", x.undo(), i);
            }
        }, MovedStones::undo, Check.NOT);
        Twins.unchanged("kept", x -> {
            Twins.rich(x);
            x.keep(0);
        }, MovedStones::undo, Check.NOT);
        Twins.unchanged("gone back", x -> {
            Twins.rich(x);
            x.goBack(0);
        }, MovedStones::undo, Check.NOT);
        Twins.unchanged("gone back to the other", x -> {
            Twins.rich(x);
            x.goBack(1);
        }, MovedStones::undo, Check.NOT);
    }
}
