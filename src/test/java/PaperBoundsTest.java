/** The edges of promises 25 to 33, JOURNEYS, THE BOOK, THE SEED, IMAGES: each method says which sentence it holds. */
public final class PaperBoundsTest {
    public static void main(String[] args) {
        journeySets();
        journeyFeet();
        eightJourneys();
        liarsOneTo99();
        liarsAsTold();
        liarsAllJourneys();
        fitsRefused();
        fitsOneTo99();
        writeBounds();
        fifteenEntries();
        wrongOnes();
        tornPapers();
        seedBounds();
        drawsOfTheSeed();
        imageUnknown();
        imageNotKept();
        nothingCanBeUndone();
        whatImagesKeep();
        whatImagesDoNotKeep();
        imagesAreApart();
        Check.end();
    }

    /** "bits of such": "a SET of ROADS was so many FEET" */
    private static void journeySets() {
        for (int roads = 0; roads <= 9; roads++) {
            String text = Lands.of(4, 9, roads);
            MovedStones x = Check.of(text);
            Check.due("the empty SET", x.journey(0, 0), 1);
            Check.due("all " + roads, x.journey((1 << roads) - 1, 0), 2);
            for (int bit = roads; bit < 32; bit++) {
                int set = 1 << bit;
                Check.due("bit " + bit + " of " + roads, x.journey(set, 0), Check.UNKNOWN);
                Check.due("bit " + bit + " of " + roads + " and others", x.journey(set | (1 << roads) - 1, 0), Check.UNKNOWN);
            }
            Check.due("two", x.told(14), 2);
        }
        int[] unknown = {64, 65, 128, -1, Check.LOW, Check.HIGH};
        for (int set : unknown) {
            Twins.unchanged("journey(" + set + ", 5)", Twins::rich, x -> x.journey(set, 5), Check.UNKNOWN);
            Twins.unchanged("journey(" + set + ", 1000)", Twins::rich, x -> x.journey(set, 1000), Check.UNKNOWN);
            Twins.unchanged("journey(" + set + ", -1)", Twins::rich, x -> x.journey(set, -1), Check.UNKNOWN);
            Twins.unchanged("a ninth of " + set, PaperBoundsTest::ofEight, x -> x.journey(set, 5), Check.UNKNOWN);
            Twins.unchanged("a ninth of " + set + ", 1000", PaperBoundsTest::ofEight, x -> x.journey(set, 1000), Check.UNKNOWN);
        }
        Twins.unchanged("no TOWNS", x -> { }, x -> x.journey(1, 5), Check.UNKNOWN);
    }

    private static void ofEight(MovedStones x) {
        Twins.rich(x);
        for (int i = 3; i <= 8; i++) {
            Check.due("journey", x.journey(1, 9), i);
        }
    }

    /** "so many FEET (0 .. 999) together" */
    private static void journeyFeet() {
        MovedStones x = Check.of(MarchTest.TEXT);
        Check.due("0", x.journey(1, 0), 1);
        Check.due("999", x.journey(63, 999), 2);
        int[] outside = {-1, 1000, Check.LOW, Check.HIGH};
        for (int feet : outside) {
            Twins.unchanged("journey(1, " + feet + ")", Twins::rich, y -> y.journey(1, feet), Check.OUTSIDE);
            Twins.unchanged("journey(0, " + feet + ")", Twins::rich, y -> y.journey(0, feet), Check.OUTSIDE);
            Twins.unchanged("a ninth of FEET " + feet, PaperBoundsTest::ofEight, y -> y.journey(1, feet), Check.OUTSIDE);
        }
    }

    /** "JOURNEYS (8 at most)"; "A JOURNEY: how many. UNKNOWN, OUTSIDE, FULL (8)." */
    private static void eightJourneys() {
        MovedStones x = Check.of(MarchTest.TEXT);
        for (int i = 1; i <= 8; i++) {
            Check.due("journey", x.journey(1 << i % 6, 5), i);
        }
        Check.due("a ninth", x.journey(1, 9), Check.FULL);
        Check.due("eight", x.told(14), 8);
        Twins.unchanged("a ninth", PaperBoundsTest::ofEight, y -> y.journey(1, 10), Check.FULL);
        Twins.unchanged("a ninth of no ROADS", PaperBoundsTest::ofEight, y -> y.journey(0, 0), Check.FULL);
        x.tear();
        Check.due("the first again", x.journey(1, 9), 1);
    }

    /** "LIARS: ROADS of which other FEET than told, 1 to 99, alone would make all JOURNEYS so" */
    private static void liarsOneTo99() {
        for (int feet = 0; feet <= 200; feet++) {
            MovedStones x = Check.of("m3 1 1;r0 1 40 5 0;r1 2 60 5 0;");
            x.journey(1, feet);
            boolean lie = feet >= 1 && feet <= 99 && feet != 40;
            Check.due("ROAD 0 of " + feet, x.liars(), lie ? 1 : 0);
            x.tear();
            x.journey(3, feet);
            int set = 0;
            if (feet != 100) {
                set |= feet - 60 >= 1 && feet - 60 <= 99 ? 1 : 0;
                set |= feet - 40 >= 1 && feet - 40 <= 99 ? 2 : 0;
            }
            Check.due("both of " + feet, x.liars(), set);
        }
    }

    /** "(a SET; 0 also if all are so as told)" */
    private static void liarsAsTold() {
        MovedStones x = Check.of(Lands.GREAT);
        Check.due("no JOURNEYS", x.liars(), 0);
        x.journey(0, 0);
        Check.due("nowhere", x.liars(), 0);
        x.journey(511, 215);
        Check.due("all as told", x.liars(), 0);
        x.journey(256, 99);
        Check.due("all as told", x.liars(), 0);
        x.tear();
        x.journey(511, 216);
        Check.due("anyone but of 99 FEET", x.liars(), 255);
        x.tear();
        x.journey(511, 214);
        Check.due("anyone", x.liars(), 511);
        for (int j = 0; j < 8; j++) {
            x.journey(1, 999);
        }
        Check.due("nobody", x.liars(), 0);
        for (int j = 0; j < 8; j++) {
            x.tear();
            for (int i = 0; i <= j; i++) {
                x.journey(1, 11);
            }
            Check.due("as told, others were torn", x.liars(), 0);
        }
        Check.due("no TOWNS", new MovedStones().liars(), 0);
        x = new MovedStones();
        x.journey(0, 1);
        Check.due("no ROADS, otherwise", x.liars(), 0);
    }

    /** "would make all JOURNEYS so": each of eight counts, also one that the ROAD is not on. */
    private static void liarsAllJourneys() {
        for (int other = 0; other < 8; other++) {
            MovedStones x = Check.of(Lands.GREAT);
            for (int j = 0; j < 8; j++) {
                x.journey(1 << j, j == other ? 50 : 11 + j);
            }
            Check.due("the JOURNEY " + other, x.liars(), 1 << other);
        }
        MovedStones x = Check.of(MarchTest.TEXT);
        x.journey(3, 20);
        Check.due("either", x.liars(), 3);
        x.journey(2, 9);
        Check.due("1 is as told", x.liars(), 1);
        x.journey(1, 10);
        Check.due("0 by 2 and by 1", x.liars(), 0);
    }

    /** "what = 0 how many, 1 the least; NONE. UNKNOWN, OUTSIDE." */
    private static void fitsRefused() {
        int[] unknown = {-1, 6, 9, 32, Check.LOW, Check.HIGH};
        for (int r : unknown) {
            Twins.unchanged("fits(" + r + ", 0)", Twins::rich, x -> x.fits(r, 0), Check.UNKNOWN);
            Twins.unchanged("fits(" + r + ", 2)", Twins::rich, x -> x.fits(r, 2), Check.UNKNOWN);
            Twins.unchanged("fits(" + r + ", -1)", Twins::rich, x -> x.fits(r, -1), Check.UNKNOWN);
        }
        int[] outside = {-1, 2, 3, Check.LOW, Check.HIGH};
        for (int what : outside) {
            Twins.unchanged("fits(0, " + what + ")", Twins::rich, x -> x.fits(0, what), Check.OUTSIDE);
            Twins.unchanged("fits(5, " + what + ")", Twins::rich, x -> x.fits(5, what), Check.OUTSIDE);
        }
    }

    /** "FITS: FEET (1 to 99) of a ROAD, others as told, by which all are so: how many; the least; NONE." */
    private static void fitsOneTo99() {
        for (int feet = 0; feet <= 200; feet++) {
            MovedStones x = Check.of("m3 1 1;r0 1 40 5 0;r1 2 60 5 0;");
            x.journey(3, feet);
            boolean can = feet - 60 >= 1 && feet - 60 <= 99;
            Check.due("how many by " + feet, x.fits(0, 0), can ? 1 : 0);
            Check.due("the least by " + feet, x.fits(0, 1), can ? feet - 60 : Check.NONE);
            boolean other = feet - 40 >= 1 && feet - 40 <= 99;
            Check.due("how many of 1 by " + feet, x.fits(1, 0), other ? 1 : 0);
            Check.due("the least of 1 by " + feet, x.fits(1, 1), other ? feet - 40 : Check.NONE);
        }
        MovedStones x = Check.of(Lands.GREAT);
        for (int r = 0; r < 9; r++) {
            Check.due("no JOURNEYS: how many", x.fits(r, 0), 99);
            Check.due("no JOURNEYS: the least", x.fits(r, 1), 1);
        }
        x.journey(256, 99);
        Check.due("not on it, it is so", x.fits(0, 0), 99);
        Check.due("not on it, the least", x.fits(0, 1), 1);
        Check.due("on it, it is so as told", x.fits(8, 0), 1);
        Check.due("on it, the least", x.fits(8, 1), 99);
        x.journey(257, 111);
        Check.due("on one of two", x.fits(0, 1), 12);
        Check.due("on both", x.fits(8, 0), 0);
        Check.due("on both, the least", x.fits(8, 1), Check.NONE);
        Check.due("on none, one is not so", x.fits(1, 0), 0);
        x.strike();
        Check.due("MILES of no matter", x.fits(0, 1), 12);
    }

    private static void ofFifteen(MovedStones x) {
        Twins.rich(x);
        for (int i = 4; i <= 15; i++) {
            Check.due("write", x.write(5, 30), i);
        }
    }

    /** "An entry behind THE BOOK (1 .. 999): how many. UNKNOWN, OUTSIDE" */
    private static void writeBounds() {
        MovedStones x = Check.of(MarchTest.TEXT);
        Check.due("1", x.write(0, 1), 1);
        Check.due("999", x.write(5, 999), 2);
        int[] outside = {0, -1, 1000, Check.LOW, Check.HIGH};
        for (int miles : outside) {
            Twins.unchanged("write(0, " + miles + ")", Twins::rich, y -> y.write(0, miles), Check.OUTSIDE);
            Twins.unchanged("a sixteenth, " + miles, PaperBoundsTest::ofFifteen, y -> y.write(0, miles), Check.OUTSIDE);
        }
        int[] unknown = {-1, 6, 9, 32, Check.LOW, Check.HIGH};
        for (int r : unknown) {
            Twins.unchanged("write(" + r + ", 1)", Twins::rich, y -> y.write(r, 1), Check.UNKNOWN);
            Twins.unchanged("write(" + r + ", 0)", Twins::rich, y -> y.write(r, 0), Check.UNKNOWN);
            Twins.unchanged("write(" + r + ", 1000)", Twins::rich, y -> y.write(r, 1000), Check.UNKNOWN);
            Twins.unchanged("a sixteenth of " + r, PaperBoundsTest::ofFifteen, y -> y.write(r, 1), Check.UNKNOWN);
            Twins.unchanged("a sixteenth of " + r + ", 0", PaperBoundsTest::ofFifteen, y -> y.write(r, 0), Check.UNKNOWN);
        }
    }

    /** "THE BOOK (15 at most) tells MILES of ROADS"; "FULL (15)." */
    private static void fifteenEntries() {
        MovedStones x = Check.of(MarchTest.TEXT);
        for (int i = 1; i <= 15; i++) {
            Check.due("write", x.write(0, 10), i);
        }
        Check.due("a sixteenth", x.write(0, 10), Check.FULL);
        Check.due("fifteen", x.told(15), 15);
        Twins.unchanged("a sixteenth", PaperBoundsTest::ofFifteen, y -> y.write(0, 1), Check.FULL);
        Twins.unchanged("a sixteenth, 999", PaperBoundsTest::ofFifteen, y -> y.write(5, 999), Check.FULL);
        x.tear();
        Check.due("the first again", x.write(0, 10), 1);
    }

    /** "WRONG: the first that is otherwise now; NONE." */
    private static void wrongOnes() {
        Check.due("no TOWNS", new MovedStones().judge(), Check.NONE);
        for (int wrong = 0; wrong < 15; wrong++) {
            MovedStones x = Check.of(Lands.GREAT);
            Check.due("an empty BOOK", x.judge(), Check.NONE);
            for (int e = 0; e < 15; e++) {
                int miles = e % 9 == 8 ? 1 : 21 + e % 9;
                x.write(e % 9, e == wrong ? miles + 1 : miles);
                Check.due("entries up to " + e, x.judge(), e < wrong ? Check.NONE : wrong);
            }
        }
        MovedStones x = Check.of(MarchTest.TEXT);
        x.write(1, 8);
        x.write(0, 11);
        x.write(0, 9);
        Check.due("the first of two", x.judge(), 1);
        x.shift(0, 1);
        Check.due("by MILES now", x.judge(), 2);
        x.strike();
        Check.due("by FEET", x.judge(), 0);
    }

    /** "No JOURNEYS, THE BOOK is empty, nothing is wanted: how many JOURNEYS and entries there were." */
    private static void tornPapers() {
        Twins.unchanged("tear of nothing", x -> Check.march(x, MarchTest.TEXT), MovedStones::tear, 0);
        Twins.unchanged("tear without TOWNS", x -> { }, MovedStones::tear, 0);
        MovedStones x = new MovedStones();
        ofEight(x);
        for (int i = 4; i <= 15; i++) {
            x.write(0, 5);
        }
        Check.due("both are full", x.tear(), 23);
        Check.due("JOURNEYS", x.told(14), 0);
        Check.due("entries", x.told(15), 0);
        Check.due("WANTED", x.told(16), 0);
        Check.due("again", x.tear(), 0);
        x.want(0, 5);
        Check.due("what is wanted is not counted", x.tear(), 0);
        Check.due("nothing is wanted", x.told(16), 0);
        Twins.Past same = y -> {
            Check.march(y, MarchTest.TEXT);
            y.keep(1);
            y.seed(4);
            y.shift(0, 1);
        };
        Twins.alike("all else stays", y -> {
            same.on(y);
            y.want(0, 5);
            y.journey(1, 5);
            y.write(1, 5);
            y.tear();
        }, same);
    }

    /** "THE SEED becomes v (0 .. 2147483647): what it was. OUTSIDE."; "THE SEED (0 at first" */
    private static void seedBounds() {
        MovedStones x = new MovedStones();
        Check.due("0 at first", x.seed(0), 0);
        Check.due("0", x.seed(Check.HIGH), 0);
        Check.due("2147483647", x.seed(1), Check.HIGH);
        Check.due("1", x.seed(0), 1);
        int[] outside = {-1, Check.LOW, -1000000001};
        for (int v : outside) {
            Twins.unchanged("seed(" + v + ")", Twins::rich, y -> y.seed(v), Check.OUTSIDE);
            Twins.unchanged("no TOWNS: seed(" + v + ")", y -> y.seed(5), y -> y.seed(v), Check.OUTSIDE);
        }
    }

    /** "it becomes it times 1103515245 and 12345, left over by 2 to the 31; the DRAW of n is it / 65536, left over by n" */
    private static void drawsOfTheSeed() {
        int[] seeds = {0, 1, 65535, 65536, 1 << 30, Check.HIGH - 1, Check.HIGH, 1103515245, 12345};
        for (int v : seeds) {
            MovedStones x = Check.of("m2 1 1;");
            x.seed(v);
            x.drift(1);
            long once = (v * 1103515245L + 12345L) % (1L << 31);
            long twice = (once * 1103515245L + 12345L) % (1L << 31);
            Check.due("behind " + v, x.seed(0), (int) (once / 65536 % 12 == 0 ? once : twice));
        }
    }

    /** "IMAGE i becomes what is so", "What is so becomes IMAGE i": "UNKNOWN" but for "IMAGES 0, 1" */
    private static void imageUnknown() {
        int[] unknown = {-1, 2, 3, 32, Check.LOW, Check.HIGH};
        for (int i : unknown) {
            Twins.unchanged("keep(" + i + ")", Twins::rich, x -> x.keep(i), Check.UNKNOWN);
            Twins.unchanged("goBack(" + i + ")", Twins::rich, x -> x.goBack(i), Check.UNKNOWN);
            Twins.unchanged("new: keep(" + i + ")", x -> { }, x -> x.keep(i), Check.UNKNOWN);
            Twins.unchanged("new: goBack(" + i + ")", x -> { }, x -> x.goBack(i), Check.UNKNOWN);
        }
    }

    private static void withoutImages(MovedStones x) {
        Check.march(x, MarchTest.TEXT);
        x.seed(8);
        x.shift(0, 1);
        x.year(1);
    }

    /** "UNKNOWN, NOT: it was not kept." */
    private static void imageNotKept() {
        for (int i = 0; i <= 1; i++) {
            int it = i;
            Twins.unchanged("new: goBack(" + i + ")", x -> { }, x -> x.goBack(it), Check.NOT);
            Twins.unchanged("goBack(" + i + ")", PaperBoundsTest::withoutImages, x -> x.goBack(it), Check.NOT);
            Twins.unchanged("the other was kept: goBack(" + i + ")", x -> {
                withoutImages(x);
                x.keep(1 - it);
                x.shift(1, 1);
            }, x -> x.goBack(it), Check.NOT);
            Twins.unchanged("ahead of a march: goBack(" + i + ")", x -> {
                Twins.rich(x);
                x.march();
                Check.march(x, MarchTest.TEXT);
            }, x -> x.goBack(it), Check.NOT);
            MovedStones x = new MovedStones();
            Check.due("keep(" + i + ") without TOWNS", x.keep(i), 1);
            Check.due("goBack(" + i + ") without TOWNS", x.goBack(i), 1);
        }
    }

    /** "(nothing can be undone then): 1." */
    private static void nothingCanBeUndone() {
        Twins.Call[] calls = {x -> x.keep(0), x -> x.keep(1), x -> x.goBack(0), x -> x.goBack(1)};
        for (int i = 0; i < calls.length; i++) {
            MovedStones x = new MovedStones();
            Twins.rich(x);
            Check.due("something can be undone", x.told(17), 4);
            Check.due("call " + i, calls[i].on(x), 1);
            Check.due("nothing can be undone by call " + i, x.told(17), 0);
            Check.due("undo behind call " + i, x.undo(), Check.NOT);
            int year = x.told(6);
            x.year(1);
            Check.due("what comes then can be", x.undo(), 0);
            Check.due("YEAR", x.told(6), year);
        }
    }

    /** "IMAGES 0, 1 keep MILES, SHIFTED ones, YEAR, what is BROKEN, THE SEED." */
    private static void whatImagesKeep() {
        Twins.Past past = x -> {
            Check.march(x, MarchTest.TEXT);
            x.year(3);
            x.seed(99);
            x.shift(1, 1);
        };
        for (int i = 0; i <= 1; i++) {
            int it = i;
            Twins.alike("gone back to " + i, x -> {
                past.on(x);
                x.keep(it);
                x.shift(3, -4);
                x.year(2);
                x.drift(20);
                x.strike();
                x.seed(5);
                x.goBack(it);
            }, x -> {
                past.on(x);
                x.keep(it);
            });
        }
        MovedStones x = Check.of(Lands.GREAT);
        x.keep(0);
        x.strike();
        x.keep(1);
        x.goBack(0);
        for (int r = 0; r < 9; r++) {
            Check.due("MILES of ROAD " + r, x.road(r, 3), x.road(r, 4));
        }
        x.goBack(1);
        for (int r = 0; r < 9; r++) {
            Check.due("MILES as FEET of ROAD " + r, x.road(r, 3), x.road(r, 2));
        }
        brokenInImages();
    }

    private static void brokenInImages() {
        Twins.alike("nothing BROKEN then", x -> {
            Check.march(x, "m2 1 9;r0 1 5 5 0;t0 0 5;");
            x.keep(0);
            x.shift(0, 1);
            x.year(1);
            x.goBack(0);
        }, x -> {
            Check.march(x, "m2 1 9;r0 1 5 5 0;t0 0 5;");
            x.keep(0);
        });
    }

    /** "IMAGES 0, 1 keep MILES, SHIFTED ones, YEAR, what is BROKEN, THE SEED": nothing else. */
    private static void whatImagesDoNotKeep() {
        MovedStones x = new MovedStones();
        Twins.rich(x);
        x.keep(0);
        x.want(1, 5);
        x.journey(1, 9);
        x.write(0, 9);
        x.feed(' ');
        x.goBack(0);
        Check.due("WANTED", x.told(16), 11);
        Check.due("JOURNEYS", x.told(14), 3);
        Check.due("entries", x.told(15), 4);
        Check.due("letters", x.told(5), 3);
        x.tear();
        x.goBack(1);
        Check.due("nothing WANTED", x.told(16), 0);
        Check.due("no JOURNEYS", x.told(14), 0);
        Check.due("no entries", x.told(15), 0);
    }

    /** "IMAGE i becomes what is so": each for itself, as often as one likes. */
    private static void imagesAreApart() {
        MovedStones x = Check.of(MarchTest.TEXT);
        x.keep(0);
        x.year(4);
        x.keep(1);
        x.year(4);
        Check.due("goBack(0)", x.goBack(0), 1);
        Check.due("YEAR", x.told(6), 0);
        x.shift(0, 4);
        Check.due("goBack(1)", x.goBack(1), 1);
        Check.due("YEAR", x.told(6), 4);
        Check.due("goBack(0)", x.goBack(0), 1);
        Check.due("what was done behind it is not in it", x.road(0, 3), 10);
        Check.due("nothing SHIFTED", x.told(8), 0);
        x.year(9);
        Check.due("keep(0) anew", x.keep(0), 1);
        x.year(1);
        Check.due("goBack(1)", x.goBack(1), 1);
        Check.due("the other stays", x.told(6), 4);
        Check.due("goBack(0)", x.goBack(0), 1);
        Check.due("YEAR", x.told(6), 9);
        Check.due("once more", x.goBack(0), 1);
        Check.due("YEAR", x.told(6), 9);
    }
}
