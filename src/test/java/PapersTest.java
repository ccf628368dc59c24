/** Promises 25 to 33: journeys, the book, the seed, images. */
public final class PapersTest {
    public static void main(String[] args) {
        journeys();
        liars();
        fits();
        books();
        tears();
        seeds();
        images();
        Check.end();
    }

    private static void journeys() {
        MovedStones x = Check.of(MarchTest.TEXT);
        Check.due("bits of no ROAD", x.journey(64, 5), Check.UNKNOWN);
        Check.due("bits of no ROAD, too many FEET", x.journey(65, 1000), Check.UNKNOWN);
        Check.due("below 0", x.journey(-1, 5), Check.UNKNOWN);
        Check.due("LOW", x.journey(Check.LOW, 5), Check.UNKNOWN);
        Check.due("FEET -1", x.journey(1, -1), Check.OUTSIDE);
        Check.due("FEET 1000", x.journey(1, 1000), Check.OUTSIDE);
        Check.due("FEET 0", x.journey(0, 0), 1);
        Check.due("FEET 999", x.journey(63, 999), 2);
        for (int i = 3; i <= 8; i++) {
            Check.due("journey", x.journey(1, 9), i);
        }
        Check.due("a ninth", x.journey(1, 9), Check.FULL);
        Check.due("a ninth, too many FEET", x.journey(1, 1000), Check.OUTSIDE);
        Check.due("told(14)", x.told(14), 8);
        MovedStones y = new MovedStones();
        Check.due("no TOWNS", y.journey(1, 9), Check.UNKNOWN);
        Check.due("no TOWNS, no ROADS", y.journey(0, 9), 1);
    }

    private static void liars() {
        MovedStones x = Check.of(MarchTest.TEXT);
        Check.due("none", x.liars(), 0);
        x.journey(3, 18);
        Check.due("all as told", x.liars(), 0);
        x.journey(6, 30);
        Check.due("1 would spoil the other", x.liars(), 4);
        x.journey(4, 20);
        Check.due("nobody alone", x.liars(), 0);
        x.tear();
        x.journey(63, 99);
        Check.due("anybody", x.liars(), 63);
        x.tear();
        x.journey(63, 160);
        Check.due("FEET 99 at most", x.liars(), 1 | 2 | 8 | 16);
        x.tear();
        x.journey(63, 80 - 9);
        Check.due("FEET 1 at least", x.liars(), 4 | 32);
        x.tear();
        x.journey(0, 1);
        Check.due("of no ROAD", x.liars(), 0);
        x.tear();
        for (int i = 0; i < 7; i++) {
            x.journey(1 << i & 15, new int[] {9, 9, 20, 5, 0, 0, 0}[i]);
        }
        Check.due("seven as told", x.liars(), 0);
        x.journey(32, 31);
        Check.due("the eighth is otherwise", x.liars(), 32);
        x.tear();
        x.journey(1, 10);
        x.strike();
        Check.due("MILES of no matter", x.liars(), 1);
    }

    private static void fits() {
        MovedStones x = Check.of(MarchTest.TEXT);
        Check.due("no JOURNEYS", x.fits(0, 0), 99);
        Check.due("no JOURNEYS: the least", x.fits(0, 1), 1);
        x.journey(6, 30);
        Check.due("not in it, and it is otherwise", x.fits(0, 0), 0);
        Check.due("the least of none", x.fits(0, 1), Check.NONE);
        Check.due("fits(1, 0)", x.fits(1, 0), 1);
        Check.due("fits(1, 1)", x.fits(1, 1), 10);
        Check.due("fits(2, 1)", x.fits(2, 1), 21);
        x.tear();
        x.journey(6, 29);
        Check.due("not in it, as told", x.fits(0, 0), 99);
        Check.due("as told", x.fits(1, 1), 9);
        x.tear();
        x.journey(1, 99);
        Check.due("99 fits", x.fits(0, 0), 1);
        Check.due("99 is the least", x.fits(0, 1), 99);
        Check.due("99 may be the lie", x.liars(), 1);
        x.journey(2, 100);
        Check.due("100 may not", x.fits(1, 0), 0);
        Check.due("what 2", x.fits(0, 2), Check.OUTSIDE);
        Check.due("what -1", x.fits(0, -1), Check.OUTSIDE);
        Check.due("no ROAD", x.fits(6, 2), Check.UNKNOWN);
        Check.due("no ROAD", x.fits(-1, 0), Check.UNKNOWN);
    }

    private static void books() {
        MovedStones x = Check.of(MarchTest.TEXT);
        Check.due("an empty book", x.judge(), Check.NONE);
        Check.due("no ROAD", x.write(6, 1), Check.UNKNOWN);
        Check.due("no ROAD", x.write(-1, 0), Check.UNKNOWN);
        Check.due("MILES 0", x.write(0, 0), Check.OUTSIDE);
        Check.due("MILES 1000", x.write(0, 1000), Check.OUTSIDE);
        Check.due("right", x.write(0, 10), 1);
        Check.due("right", x.judge(), Check.NONE);
        Check.due("wrong", x.write(1, 999), 2);
        Check.due("wrong", x.judge(), 1);
        Check.due("wrong too", x.write(1, 1), 3);
        Check.due("the first", x.judge(), 1);
        x.shift(0, 1);
        Check.due("by MILES now", x.judge(), 0);
        for (int i = 4; i <= 15; i++) {
            Check.due("write", x.write(0, 10), i);
        }
        Check.due("the first of fifteen", x.judge(), 0);
        x.undo();
        Check.due("undone: the second", x.judge(), 1);
        Check.due("a sixteenth", x.write(0, 10), Check.FULL);
        Check.due("a sixteenth, MILES 0", x.write(0, 0), Check.OUTSIDE);
        Check.due("told(15)", x.told(15), 15);
    }

    private static void tears() {
        MovedStones x = Check.of(MarchTest.TEXT);
        Check.due("nothing", x.tear(), 0);
        x.journey(1, 1);
        x.journey(2, 1);
        x.write(0, 1);
        x.want(0, 1);
        Check.due("two and one", x.tear(), 3);
        Check.due("JOURNEYS", x.told(14), 0);
        Check.due("entries", x.told(15), 0);
        Check.due("WANTED", x.told(16), 0);
        Check.due("MILES WANTED", x.road(0, 6), Check.NONE);
        Check.due("judge", x.judge(), Check.NONE);
        Check.due("liars", x.liars(), 0);
        Check.due("again", x.tear(), 0);
    }

    private static void seeds() {
        MovedStones x = new MovedStones();
        Check.due("seed(-1)", x.seed(-1), Check.OUTSIDE);
        Check.due("seed(LOW)", x.seed(Check.LOW), Check.OUTSIDE);
        Check.due("seed(HIGH)", x.seed(Check.HIGH), 0);
        Check.due("seed(0)", x.seed(0), Check.HIGH);
        x = Check.of(MarchTest.TEXT);
        x.seed(Check.HIGH);
        x.drift(1);
        long seed = (Check.HIGH * 1103515245L + 12345L) % 2147483648L;
        seed = (seed * 1103515245L + 12345L) % 2147483648L;
        seed = (seed * 1103515245L + 12345L) % 2147483648L;
        Check.due("three DRAWS on", x.seed(0), (int) seed);
    }

    private static void images() {
        MovedStones x = new MovedStones();
        Check.due("keep without TOWNS", x.keep(0), 1);
        Check.due("goBack without TOWNS", x.goBack(0), 1);
        x = Check.of(MarchTest.TEXT);
        Check.due("keep(-1)", x.keep(-1), Check.UNKNOWN);
        Check.due("keep(2)", x.keep(2), Check.UNKNOWN);
        Check.due("goBack(-1)", x.goBack(-1), Check.UNKNOWN);
        Check.due("goBack(2)", x.goBack(2), Check.UNKNOWN);
        Check.due("goBack(0)", x.goBack(0), Check.NOT);
        x.year(2);
        x.shift(0, 2);
        x.seed(5);
        x.want(0, 7);
        Check.due("keep(1)", x.keep(1), 1);
        Check.due("nothing to undo", x.undo(), Check.NOT);
        Check.due("goBack of the other", x.goBack(0), Check.NOT);
        x.drift(9);
        x.strike();
        x.want(0, 0);
        Check.due("keep(0)", x.keep(0), 1);
        int strike = x.told(13);
        x.year(1);
        Check.due("goBack(1)", x.goBack(1), 1);
        Check.due("nothing to undo", x.told(17), 0);
        Check.due("YEAR", x.told(6), 2);
        Check.due("SHIFTED", x.told(8), 1);
        Check.due("MILES", x.told(13), 89);
        Check.due("BROKEN", x.told(10), 14);
        Check.due("the first", x.told(11), 1);
        Check.due("its YEAR", x.told(12), 0);
        Check.due("THE SEED", x.seed(6), 5);
        Check.due("wishes are not kept", x.told(16), 0);
        Check.due("goBack(0)", x.goBack(0), 1);
        Check.due("YEAR", x.told(6), 11);
        Check.due("MILES", x.told(13), strike);
        Check.due("goBack(1) again", x.goBack(1), 1);
        Check.due("YEAR again", x.told(6), 2);
        Check.due("keep anew", x.keep(0), 1);
        x.year(1);
        x.goBack(0);
        Check.due("YEAR of it", x.told(6), 2);
    }
}
