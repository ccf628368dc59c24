/** Promises 1 to 7: a new object, the text, its faults, what is told of it. */
public final class MarchTest {
    static final String TEXT = "m5 2 4;r0 1 9 10 0;r1 2 9 8 1;r0 2 20 30 0;r2 3 5 12 1;r3 4 7 7 0;r1 4 30 20 1;"
        + "t0 0,1 18;t1 2 25;t2 3,4 20;t0 0,1 17;";
    private static final String FULL_ROADS = "m6 1 1;r0 1 1 1 0;r0 2 1 1 0;r0 3 1 1 0;r0 4 1 1 0;r0 5 1 1 0;r1 2 1 1 0;"
        + "r1 3 1 1 0;r1 4 1 1 0;r1 5 1 1 0;";

    public static void main(String[] args) {
        newObject();
        feeds();
        marches();
        unlikely();
        cannotStand();
        numbers();
        tooMany();
        doubled();
        ofTwoTheLeast();
        told();
        roads();
        treaties();
        Check.end();
    }

    private static void newObject() {
        MovedStones x = new MovedStones();
        for (int what = 0; what <= 17; what++) {
            Check.due("new: told(" + what + ")", x.told(what), what == 11 || what == 12 ? Check.NONE : 0);
        }
        Check.due("new: fault", x.fault(), Check.NONE);
        Check.due("new: way", x.way(0, 1, false), Check.UNKNOWN);
        Check.due("new: owes", x.owes(0), Check.UNKNOWN);
        Check.due("new: judge", x.judge(), Check.NONE);
        Check.due("new: seed", x.seed(0), 0);
        Check.due("new: goBack", x.goBack(0), Check.NOT);
    }

    private static void feeds() {
        MovedStones x = new MovedStones();
        Check.due("feed(-1)", x.feed(-1), Check.OUTSIDE);
        Check.due("feed(256)", x.feed(256), Check.OUTSIDE);
        Check.due("feed(LOW)", x.feed(Check.LOW), Check.OUTSIDE);
        Check.due("feed(HIGH)", x.feed(Check.HIGH), Check.OUTSIDE);
        Check.due("feed(0)", x.feed(0), 1);
        Check.due("feed(255)", x.feed(255), 2);
        for (int i = 3; i <= 250; i++) {
            Check.due("feed", x.feed(' '), i);
        }
        Check.due("feed of the 251st", x.feed(' '), Check.FULL);
        Check.due("feed(256) when full", x.feed(256), Check.OUTSIDE);
        Check.due("told(5)", x.told(5), 250);
        Check.due("march", x.march(), -11);
        Check.due("fault", x.fault(), 0);
        Check.due("told(5) behind", x.told(5), 0);
        Check.due("feed again", x.feed('m'), 1);
    }

    private static void marches() {
        MovedStones x = new MovedStones();
        Check.due("march", Check.march(x, TEXT), 6);
        Check.due("fault", x.fault(), Check.NONE);
        x.seed(77);
        x.shift(0, 1);
        x.want(0, 5);
        x.journey(1, 5);
        x.write(0, 5);
        x.keep(1);
        x.year(3);
        Check.due("a faulty march", Check.march(x, "m5 2 4;r"), -11);
        Check.due("its fault", x.fault(), 8);
        Check.due("its text", x.told(5), 0);
        Check.due("YEAR stays", x.told(6), 3);
        Check.due("BROKEN stays", x.told(10), 15);
        Check.due("ROADS stay", x.told(3), 6);
        Check.due("JOURNEYS stay", x.told(14), 1);
        Check.due("what can be undone stays", x.told(17), 1);
        Check.due("another march", Check.march(x, "m3 3 2;r0 1 5 6 2;"), 1);
        Check.due("no fault", x.fault(), Check.NONE);
        int[] want = {3, 3, 2, 1, 0, 0, 0, 0, 0, 0, 0, -1, -1, 6, 0, 0, 0, 0};
        for (int what = 0; what <= 17; what++) {
            Check.due("then told(" + what + ")", x.told(what), want[what]);
        }
        Check.due("IMAGES are gone", x.goBack(1), Check.NOT);
        Check.due("nothing to undo", x.undo(), Check.NOT);
        Check.due("THE SEED stays", x.seed(0), 77);
        Check.due("an empty text", x.march(), 0);
        Check.due("no TOWNS", x.told(0), 0);
        Check.due("no COUNTIES", x.told(1), 0);
        Check.due("no ROADS", x.road(0, 0), Check.UNKNOWN);
    }

    private static void unlikely() {
        MovedStones x = Check.of("  m 2  1 1 ;  r 0 1 099 1 000 ; t 0 0 999 ;t2 0 0;  ");
        Check.due("its FEET", x.road(0, 2), 99);
        Check.due("its V", x.treaty(0, 2), 999);
        Check.due("its K", x.treaty(1, 0), 2);
        x = Check.of("m3 1 1;r0 1 1 1 0;t0 0 1;r1 2 1 1 0;t1 0 ,  1 2;");
        Check.due("ROADS behind TREATIES", x.told(3), 2);
        Check.due("a SET", x.treaty(1, 1), 3);
        Check.due("blanks alone", Check.march(new MovedStones(), "   "), 0);
        Check.due("nine ROADS", Check.march(new MovedStones(), FULL_ROADS), 9);
        x = Check.of(FULL_ROADS + "t1 0,1,2,3,4,5,6,7,8 9;");
        Check.due("a TREATY of all", x.treaty(0, 1), 511);
        Check.due("it HOLDS", x.treaty(0, 4), 1);
    }

    private static void cannotStand() {
        Check.fault("x", 1, 0);
        Check.fault("  r0 1 1 1 0;", 1, 2);
        Check.fault("t", 1, 0);
        Check.fault(";", 1, 0);
        Check.fault("M2 1 1;", 1, 0);
        Check.fault("\t", 1, 0);
        Check.fault("m", 1, 1);
        Check.fault("m  ", 1, 3);
        Check.fault("m;", 1, 1);
        Check.fault("m2 1;", 1, 4);
        Check.fault("m2 1 1", 1, 6);
        Check.fault("m2 1 1 ", 1, 7);
        Check.fault("m2 1 1 1;", 1, 7);
        Check.fault("m2,1 1;", 1, 2);
        Check.fault("m2 1 1;;", 1, 7);
        Check.fault("m2 1 1;5", 1, 7);
        Check.fault("m2 1 m", 1, 5);
        Check.fault("m2 1 -1;", 1, 5);
        Check.fault("m2 1 1;r0 1 1 1;", 1, 15);
        Check.fault("m2 1 1;r0 1 1 1 0 ", 1, 18);
        Check.fault("m2 1 1;r0 1 1 1 0;t0;", 1, 20);
        Check.fault("m2 1 1;r0 1 1 1 0;t0 0;", 1, 22);
        Check.fault("m2 1 1;r0 1 1 1 0;t0 0,;", 1, 23);
        Check.fault("m2 1 1;r0 1 1 1 0;t0 0 1,", 1, 24);
        Check.fault("m2 1 1;r0 1 1 1 0;t0,0 1;", 1, 20);
        Check.fault("m2 1 1;" + (char) 233, 1, 7);
    }

    private static void numbers() {
        Check.fault("m1 1 1;", 2, 1);
        Check.fault("m7 1 1;", 2, 1);
        Check.fault("m 0002 1 1;", 2, 2);
        Check.fault("m2222222222222 1 1;", 2, 1);
        Check.fault("m2 0 1;", 2, 3);
        Check.fault("m2 5 1;", 2, 3);
        Check.fault("m2 1 0;", 2, 5);
        Check.fault("m2 1 10;", 2, 5);
        Check.fault("m2 1 1;r2 1 1 1 0;", 2, 8);
        Check.fault("m2 1 1;r0 2 1 1 0;", 2, 10);
        Check.fault("m2 1 1;r0 1 0 1 0;", 2, 12);
        Check.fault("m2 1 1;r0 1 100 1 0;", 2, 12);
        Check.fault("m2 1 1;r0 1 1 0 0;", 2, 14);
        Check.fault("m2 1 1;r0 1 1 100 0;", 2, 14);
        Check.fault("m2 1 1;r0 1 1 1 1;", 2, 16);
        Check.fault("m2 1 1;r0 1 1 1 0;t3 0 1;", 2, 19);
        Check.fault("m2 1 1;r0 1 1 1 0;t0 1 1;", 2, 21);
        Check.fault("m2 1 1;r0 1 1 1 0;t0 0,1 1;", 2, 23);
        Check.fault("m2 1 1;r0 1 1 1 0;t0 0 1000;", 2, 23);
        Check.fault("m2 1 1;t0 0 1;", 2, 10);
        Check.fault("m2 1 1000", 2, 5);
    }

    private static void tooMany() {
        Check.fault("m2 1 1; m2 1 1;", 3, 8);
        Check.fault(FULL_ROADS + "r2 3 1 1 0;", 3, FULL_ROADS.length());
        String treaties = "m2 1 1;r0 1 1 1 0;t0 0 1;t0 0 1;t0 0 1;t0 0 1;t0 0 1;t0 0 1;";
        Check.due("six TREATIES", Check.of(treaties).told(4), 6);
        Check.fault(treaties + "t0 0 1;", 3, treaties.length());
    }

    private static void doubled() {
        Check.fault("m2 1 1;r0 0 1 1 0;", 4, 10);
        Check.fault("m3 1 1;r0 1 1 1 0;r0 1 1 1 0;", 4, 21);
        Check.fault("m3 1 1;r0 1 1 1 0;r1 0 1 1 0;", 4, 21);
        Check.fault("m3 1 1;r0 1 1 1 0;r0 2 1 1 0;t0 0,0 1;", 4, 34);
        Check.fault("m3 1 1;r0 1 1 1 0;r0 2 1 1 0;t0 1, 0 1;", 4, 35);
        String all = FULL_ROADS + "t0 0,1,2,3,4,5,6,7,8,";
        Check.fault(all + "8 9;", 4, all.length());
        Check.fault(all + "9 9;", 2, all.length());
        Check.fault(all, 1, all.length());
    }

    private static void ofTwoTheLeast() {
        Check.fault("m2 1 1;r0 0 1000 1 0;", 4, 10);
        Check.fault("m2 1 1;r0 0000 1 1 0;", 2, 10);
        Check.fault("m2 1 1;r0 1 1 1 0;t0 0,0000 1;", 2, 23);
        Check.fault("m2 1 1;r0 1 1m 1 0;", 1, 13);
    }

    private static void told() {
        MovedStones x = Check.of(TEXT);
        int[] want = {5, 2, 4, 6, 4, 0, 0, 0, 0, 1, 0, -1, -1, 87, 0, 0, 0, 0};
        for (int what = 0; what <= 17; what++) {
            Check.due("told(" + what + ")", x.told(what), want[what]);
        }
        int[] outside = {-1, 18, Check.LOW, Check.HIGH};
        for (int what : outside) {
            Check.due("told(" + what + ")", x.told(what), Check.OUTSIDE);
        }
        x.feed('m');
        x.shift(2, 4);
        x.want(1, 9);
        x.want(3, 9);
        x.journey(0, 0);
        x.write(1, 1);
        x.write(1, 2);
        int[] then = {5, 2, 4, 6, 4, 1, 0, 0, 4, 1, 0, -1, -1, 91, 1, 2, 10, 1};
        for (int what = 0; what <= 17; what++) {
            Check.due("then told(" + what + ")", x.told(what), then[what]);
        }
        x.year(1);
        int[] late = {5, 2, 4, 6, 4, 1, 1, 1, 0, 1, 14, 1, 0, 91, 1, 2, 10, 2};
        for (int what = 0; what <= 17; what++) {
            Check.due("a year late told(" + what + ")", x.told(what), late[what]);
        }
    }

    private static void roads() {
        MovedStones x = Check.of(TEXT);
        int[] want = {1, 4, 30, 20, 20, 1, -1};
        for (int what = 0; what <= 6; what++) {
            Check.due("road(5, " + what + ")", x.road(5, what), want[what]);
        }
        x.shift(0, 3);
        x.want(0, 999);
        int[] then = {0, 1, 9, 13, 10, 0, 999};
        for (int what = 0; what <= 6; what++) {
            Check.due("road(0, " + what + ")", x.road(0, what), then[what]);
        }
        Check.due("road(0, 7)", x.road(0, 7), Check.OUTSIDE);
        Check.due("road(0, -1)", x.road(0, -1), Check.OUTSIDE);
        Check.due("road(6, 0)", x.road(6, 0), Check.UNKNOWN);
        Check.due("road(-1, 0)", x.road(-1, 0), Check.UNKNOWN);
        Check.due("road(6, 9)", x.road(6, 9), Check.UNKNOWN);
        Check.due("road(LOW, 0)", x.road(Check.LOW, 0), Check.UNKNOWN);
        Check.due("road(HIGH, 0)", x.road(Check.HIGH, 0), Check.UNKNOWN);
    }

    private static void treaties() {
        MovedStones x = Check.of(TEXT);
        int[][] want = {{0, 3, 18, 18, 1}, {1, 4, 25, 30, 0}, {2, 24, 20, 19, 0}, {0, 3, 17, 18, 0}};
        for (int t = 0; t < 4; t++) {
            for (int what = 0; what < 5; what++) {
                Check.due("treaty(" + t + ", " + what + ")", x.treaty(t, what), want[t][what]);
            }
        }
        x.shift(4, 1);
        Check.due("treaty(2, 3)", x.treaty(2, 3), 20);
        Check.due("treaty(2, 4)", x.treaty(2, 4), 1);
        Check.due("treaty(0, 5)", x.treaty(0, 5), Check.OUTSIDE);
        Check.due("treaty(0, -1)", x.treaty(0, -1), Check.OUTSIDE);
        Check.due("treaty(4, 0)", x.treaty(4, 0), Check.UNKNOWN);
        Check.due("treaty(-1, 5)", x.treaty(-1, 5), Check.UNKNOWN);
        Check.due("treaty(HIGH, 0)", x.treaty(Check.HIGH, 0), Check.UNKNOWN);
    }
}
