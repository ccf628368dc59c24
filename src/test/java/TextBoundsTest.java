/** The edges of section 1, THE MARCH, and of promises 1 to 4: each method says which sentence it holds. */
public final class TextBoundsTest {
    private static final String ROADS = "m6 1 1;r0 1 1 1 0;r0 2 1 1 0;r0 3 1 1 0;r0 4 1 1 0;r0 5 1 1 0;r1 2 1 1 0;"
        + "r1 3 1 1 0;r1 4 1 1 0;r1 5 1 1 0;";
    private static final String TREATIES = "t0 0 1;t1 1 2;t2 2 3;t0 3 4;t1 4 5;t2 5 6;";
    private static final String SMALL = "m3 1 9;r0 1 12 34 0;t0 0 34;";

    public static void main(String[] args) {
        newObject();
        letters();
        textsOf250();
        townBounds();
        roadBounds();
        treatyBounds();
        figures();
        firstAndOnce();
        nineRoads();
        sixTreaties();
        unlikeTowns();
        noTwoRoads();
        toldAhead();
        rising();
        wordsOfOneLetter();
        blanks();
        neededBlanks();
        theEnd();
        otherLetters();
        theLeastFault();
        theFirstFault();
        emptyTexts();
        emptyThen();
        allElseAsItWas();
        becomesTheMarch();
        lesserMarch();
        faultOfTheLatest();
        Check.end();
    }

    private static void stands(String text, int roads) {
        MovedStones x = new MovedStones();
        Check.due("march of '" + text + "'", Check.march(x, text), roads);
        Check.due("fault of '" + text + "'", x.fault(), Check.NONE);
    }

    /** "A new object": "No TOWNS." So whatever names a TOWN, a ROAD, a COUNTY, a TREATY is UNKNOWN. */
    private static void newObject() {
        Twins.alike("a new object is one of an empty text", x -> { }, MovedStones::march);
        MovedStones x = new MovedStones();
        Check.due("new: told(0)", x.told(0), 0);
        Check.due("new: road(0, 0)", x.road(0, 0), Check.UNKNOWN);
        Check.due("new: treaty(0, 0)", x.treaty(0, 0), Check.UNKNOWN);
        Check.due("new: shift(0, 1)", x.shift(0, 1), Check.UNKNOWN);
        Check.due("new: truly(0, 1, -1)", x.truly(0, 1, -1), Check.UNKNOWN);
        Check.due("new: mend(0)", x.mend(0), Check.UNKNOWN);
        Check.due("new: want(0, 1)", x.want(0, 1), Check.UNKNOWN);
        Check.due("new: deceive(0, 1)", x.deceive(0, 1), Check.UNKNOWN);
        Check.due("new: fee(0, 1, 0)", x.fee(0, 1, 0), Check.UNKNOWN);
        Check.due("new: owes(0)", x.owes(0), Check.UNKNOWN);
        Check.due("new: rate(0, 1)", x.rate(0, 1), Check.UNKNOWN);
        Check.due("new: fits(0, 0)", x.fits(0, 0), Check.UNKNOWN);
        Check.due("new: write(0, 1)", x.write(0, 1), Check.UNKNOWN);
    }

    /** "One letter (a number 0 .. 255) comes behind THE TEXT: how many it has." */
    private static void letters() {
        MovedStones x = new MovedStones();
        for (int letter = 0; letter <= 255; letter++) {
            MovedStones y = new MovedStones();
            Check.due("feed(" + letter + ")", y.feed(letter), 1);
            if (letter <= 249) {
                Check.due("feed(" + letter + ") behind others", x.feed(letter), letter + 1);
            }
        }
        int[] outside = {-1, 256, Check.LOW, Check.HIGH};
        for (int letter : outside) {
            Twins.unchanged("feed(" + letter + ")", Twins::rich, y -> y.feed(letter), Check.OUTSIDE);
        }
    }

    private static void feedBlanks(MovedStones x, int upTo) {
        for (int i = x.told(5); i < upTo; i++) {
            Check.due("feed", x.feed(' '), i + 1);
        }
    }

    /** "(250 letters at most)"; "OUTSIDE, FULL (250)." */
    private static void textsOf250() {
        MovedStones x = new MovedStones();
        Check.feed(x, "m2 1 1;r0 1 1 1 0");
        feedBlanks(x, 249);
        Check.due("the 250th letter", x.feed(';'), 250);
        Check.due("one more", x.feed(';'), Check.FULL);
        Check.due("letters", x.told(5), 250);
        Check.due("all 250 are read", x.march(), 1);
        Check.feed(x, "m2 1 1;r0 1 1 1 0");
        feedBlanks(x, 250);
        Check.due("of 250, without an end", x.march(), -11);
        Check.due("its letter", x.fault(), 250);
        Check.due("empty again", x.feed('m'), 1);
        Twins.Past full = y -> {
            Check.feed(y, "m2 1 1;r0 1 5 6 0;");
            feedBlanks(y, 250);
        };
        Twins.unchanged("the 251st letter", full, y -> y.feed('x'), Check.FULL);
        Twins.unchanged("the 251st letter, 0", full, y -> y.feed(0), Check.FULL);
        Twins.unchanged("256 as the 251st letter", full, y -> y.feed(256), Check.OUTSIDE);
        Twins.unchanged("-1 as the 251st letter", full, y -> y.feed(-1), Check.OUTSIDE);
    }

    /** Every NUMBER 0 .. 1001 at a place: within its bounds the text stands, else it is FAULT 2 at its first figure. */
    private static void place(String ahead, String behind, int low, int high, int roads) {
        for (int v = 0; v <= 1001; v++) {
            String text = ahead + v + behind;
            if (v >= low && v <= high) {
                stands(text, roads);
            } else {
                Check.fault(text, 2, ahead.length());
            }
        }
    }

    /** "N 2 .. 6"; "C 1 .. 4"; "in a year one ROAD may be shifted by S MILES at most, 1 .. 9" */
    private static void townBounds() {
        place("m", " 1 1;", 2, 6, 0);
        place("m2 ", " 1;", 1, 4, 0);
        place("m2 1 ", ";", 1, 9, 0);
    }

    /** "TOWNS 0 .. N less 1"; "COUNTIES 0 .. C less 1"; "of FEET F 1 .. 99; MILES M told by stones 1 .. 99" */
    private static void roadBounds() {
        for (int n = 2; n <= 6; n++) {
            String head = "m" + n + " 1 1;";
            Check.fault(head + "r0 0 1 1 0;", 4, head.length() + 3);
            for (int v = 1; v <= 9; v++) {
                if (v < n) {
                    stands(head + "r" + v + " 0 1 1 0;", 1);
                    stands(head + "r0 " + v + " 1 1 0;", 1);
                } else {
                    Check.fault(head + "r" + v + " 0 1 1 0;", 2, head.length() + 1);
                    Check.fault(head + "r0 " + v + " 1 1 0;", 2, head.length() + 3);
                }
            }
        }
        place("m2 1 1;r0 1 ", " 1 0;", 1, 99, 1);
        place("m2 1 1;r0 1 1 ", " 0;", 1, 99, 1);
        for (int c = 1; c <= 4; c++) {
            place("m2 " + c + " 1;r0 1 1 1 ", ";", 0, c - 1, 1);
        }
    }

    /** "K 0 just V, 1 V at most, 2 V at least; V 0 .. 999" */
    private static void treatyBounds() {
        place("m2 1 1;r0 1 1 1 0;t", " 0 1;", 0, 2, 1);
        place("m2 1 1;r0 1 1 1 0;t0 0 ", ";", 0, 999, 1);
        for (int v = 9; v <= 11; v++) {
            MovedStones x = Check.of("m3 1 1;r0 1 1 4 0;r1 2 1 6 0;t0 0,1 " + v + ";t1 0,1 " + v + ";t2 0,1 " + v + ";");
            Check.due("10 is just " + v, x.treaty(0, 4), v == 10 ? 1 : 0);
            Check.due("10 is at most " + v, x.treaty(1, 4), v >= 10 ? 1 : 0);
            Check.due("10 is at least " + v, x.treaty(2, 4), v <= 10 ? 1 : 0);
        }
    }

    /** "NUMBERS have one to three figures"; "2 a NUMBER of four figures or more, or out of its bounds" */
    private static void figures() {
        stands("m2 1 1;r0 1 9 9 0;", 1);
        stands("m02 01 01;r00 01 09 09 00;", 1);
        stands("m002 001 001;r000 001 009 009 000;", 1);
        MovedStones x = Check.of("m002 001 009;r000 001 099 009 000;t002 000 007;");
        Check.due("001 counts as 1", x.told(1), 1);
        Check.due("099 counts as 99", x.road(0, 2), 99);
        Check.due("007 counts as 7", x.treaty(0, 2), 7);
        String[] ahead = {"m", "m2 ", "m2 1 ", "m2 1 1;r", "m2 1 1;r0 ", "m2 1 1;r0 1 ", "m2 1 1;r0 1 1 ", "m2 1 1;r0 1 1 1 ",
            "m2 1 1;r0 1 1 1 0;t", "m2 1 1;r0 1 1 1 0;t0 ", "m2 1 1;r0 1 1 1 0;t0 0,", "m2 1 1;r0 1 1 1 0;t0 0 "};
        String[] many = {"0000", "0001", "0002", "1000", "00001", "99999999999", "4294967298", "18446744073709551618"};
        for (String text : ahead) {
            for (String number : many) {
                Check.fault(text + number, 2, text.length());
                Check.fault(text + number + " ;", 2, text.length());
            }
        }
    }

    /** "first, once"; "another word first than 'm'"; "3 'm' again" */
    private static void firstAndOnce() {
        Check.fault("r0 1 1 1 0;m2 1 1;", 1, 0);
        Check.fault(" t0 0 1;m2 1 1;", 1, 1);
        Check.fault("m2 1 1;m", 3, 7);
        Check.fault("m2 1 1;  m3 1 1;", 3, 9);
        Check.fault(SMALL + "m", 3, SMALL.length());
        Check.fault("m2 1 1;r0 1 1 1 0;m2 1 1;", 3, 18);
    }

    /** "9 ROADS at most"; "a tenth 'r'" (at it). */
    private static void nineRoads() {
        MovedStones x = Check.of(ROADS);
        Check.due("nine", x.told(3), 9);
        Check.due("the ninth's A", x.road(8, 0), 1);
        Check.due("the ninth's B", x.road(8, 1), 5);
        Check.fault(ROADS + "r", 3, ROADS.length());
        Check.fault(ROADS + "  r2 3 1 1 0;", 3, ROADS.length() + 2);
        Check.fault(ROADS + TREATIES + "r2 3 1 1 0;", 3, ROADS.length() + TREATIES.length());
    }

    /** "6 TREATIES at most"; "a seventh 't' (at it)" */
    private static void sixTreaties() {
        MovedStones x = Check.of(ROADS + TREATIES);
        Check.due("six", x.told(4), 6);
        for (int t = 0; t < 6; t++) {
            Check.due("K of " + t, x.treaty(t, 0), t % 3);
            Check.due("ROADS of " + t, x.treaty(t, 1), 1 << t);
            Check.due("V of " + t, x.treaty(t, 2), t + 1);
        }
        int length = ROADS.length() + TREATIES.length();
        Check.fault(ROADS + TREATIES + "t", 3, length);
        Check.fault(ROADS + TREATIES + " t0 0 1;", 3, length + 1);
        stands("m3 1 1;r0 1 1 1 0;" + "t0 0 1;".repeat(6) + "r1 2 1 1 0;", 2);
        Check.fault("m3 1 1;r0 1 1 1 0;" + "t0 0 1;".repeat(6) + "r1 2 1 1 0;t0 0 1;", 3, 71);
    }

    /** "between unlike TOWNS"; "4 B like A, both TOWNS have a ROAD (at the B)" */
    private static void unlikeTowns() {
        for (int town = 0; town < 6; town++) {
            Check.fault("m6 1 1;r" + town + " " + town + " 1 1 0;", 4, 10);
            Check.fault("m6 1 1;r" + town + "   " + town, 4, 12);
        }
    }

    /** "no two between the same TOWNS": either way; one TOWN alike is no matter. */
    private static void noTwoRoads() {
        for (int first = 0; first < 36; first++) {
            for (int second = 0; second < 36; second++) {
                int a = first / 6;
                int b = first % 6;
                int c = second / 6;
                int d = second % 6;
                if (a == b || c == d) {
                    continue;
                }
                String text = "m6 1 1;r" + a + " " + b + " 1 1 0;r" + c + " " + d + " 1 1 0;";
                if (a == c && b == d || a == d && b == c) {
                    Check.fault(text, 4, 21);
                } else {
                    stands(text, 2);
                }
            }
        }
    }

    /** "MILES of all ROADS R told ahead"; "a ROAD that was not told yet (at its first)" */
    private static void toldAhead() {
        Check.fault("m3 1 1;t0 0 1;", 2, 10);
        stands("m3 1 1;r0 1 1 1 0;t0 0 1;", 1);
        Check.fault("m3 1 1;r0 1 1 1 0;t0 1 1;r1 2 1 1 0;", 2, 21);
        Check.fault("m3 1 1;r0 1 1 1 0;t0 0, 1 1;r1 2 1 1 0;", 2, 24);
        stands("m3 1 1;r0 1 1 1 0;r1 2 1 1 0;t0 1 1;", 2);
        stands("m3 1 1;r0 1 1 1 0;t0 0 1;r1 2 1 1 0;t0 0,1 1;", 2);
        Check.fault("m3 1 1;r0 1 1 1 0;t0  10 1;", 2, 22);
        Check.fault(ROADS + "t0 9 1;", 2, ROADS.length() + 3);
        stands(ROADS + "t0 8 1;", 9);
    }

    /** "rising"; "a ROAD that does not rise (at it)" */
    private static void rising() {
        String head = "m3 1 1;r0 1 1 1 0;r1 2 1 1 0;r0 2 1 1 0;";
        for (int a = 0; a <= 3; a++) {
            for (int b = 0; b <= 3; b++) {
                String text = head + "t0 " + a + "," + b + " 5;";
                if (a == 3 || b == 3) {
                    Check.fault(text, 2, head.length() + (a == 3 ? 3 : 5));
                } else if (b <= a) {
                    Check.fault(text, 4, head.length() + 5);
                } else {
                    Check.due("the SET of " + text, Check.of(text).treaty(0, 1), 1 << a | 1 << b);
                }
            }
        }
        Check.fault(head + "t0 0,2,1 5;", 4, head.length() + 7);
        Check.fault(head + "t0 0,1,1 5;", 4, head.length() + 7);
        Check.due("all three", Check.of(head + "t0 0,1,2 5;").treaty(0, 1), 7);
        String nine = ROADS + "t0 0,1,2,3,4,5,6,7,8";
        Check.due("all nine", Check.of(nine + " 9;").treaty(0, 1), 511);
        Check.fault(nine + ",8 9;", 4, nine.length() + 1);
        Check.fault(nine + ",9 9;", 2, nine.length() + 1);
        Check.fault(nine + ",", 1, nine.length() + 1);
        Check.due("two TREATIES, each its own ROADS", Check.of(head + "t0 0,1 5;t0 2 5;").treaty(1, 1), 4);
    }

    /** "a word is one letter" */
    private static void wordsOfOneLetter() {
        Check.fault("mm2 1 1;", 1, 1);
        Check.fault("m2 1 1;rr0 1 1 1 0;", 1, 8);
        Check.fault("m2 1 1;r0 1 1 1 0;tt0 0 1;", 1, 19);
        Check.fault("m2 1 1;r0 1 1 1 0;rt0 0 1;", 1, 19);
    }

    /** "blanks (32) may stand anywhere but within NUMBERS" */
    private static void blanks() {
        for (int i = 0; i <= SMALL.length(); i++) {
            String text = SMALL.substring(0, i) + " " + SMALL.substring(i);
            boolean within = i > 0 && i < SMALL.length() && Character.isDigit(SMALL.charAt(i - 1)) && Character.isDigit(SMALL.charAt(i));
            if (!within) {
                Twins.alike("a blank at " + i, x -> Check.march(x, text), x -> Check.march(x, SMALL));
            }
        }
        Check.fault("m3 1 9;r0 1 1 2 34 0;", 2, 16);
        Check.fault("m3 1 9;r0 1 12 3 4 0;", 2, 17);
        Check.fault("m3 1 9;r0 1 12 34 0;t0 0 3 4;", 1, 27);
        Check.fault("m3 1 1 0;", 1, 7);
        int[] others = {9, 10, 13, 0, 160};
        for (int letter : others) {
            Check.fault("m3" + (char) letter + "1 9;", 1, 2);
            Check.fault("m3 1 9;" + (char) letter, 1, 7);
        }
        stands("   m   3   1   9   ;   r   0   1   12   34   0   ;   t   0   0   34   ;   ", 1);
        stands("m3 1 9;r0 1 1 1 0;r1 2 1 1 0;t0 0   ,   1   34;", 2);
    }

    /** "two NUMBERS side by side need one": figures side by side are one NUMBER. */
    private static void neededBlanks() {
        Check.fault("m31 9;", 2, 1);
        Check.fault("m3 19;", 2, 3);
        Check.fault("m319;", 2, 1);
        Check.fault("m3 1 9;r01 12 34 0;", 2, 11);
        Check.fault("m3 1 9;r0 112 34 0;", 2, 10);
        Check.fault("m3 1 9;r0 1 1234 0;", 2, 12);
        Check.fault("m3 1 9;r0 1 12 340;", 2, 15);
        Check.fault("m3 1 9;r0 1 12 34 0;t00 34;", 2, 24);
        Check.fault("m3 1 9;r0 1 12 34 0;t0 034;", 2, 23);
    }

    /** "(the end at the text's length)": a text that is cut within a clause. */
    private static void theEnd() {
        String text = "m3 1 9;r0 1 12 34 0;r1 2 5 6 0;t0 0 , 1 34;";
        int roads = 0;
        for (int length = 0; length <= text.length(); length++) {
            String cut = text.substring(0, length);
            if (length == 0 || cut.endsWith(";")) {
                roads = length == 20 ? 1 : length >= 31 ? 2 : 0;
                stands(cut, roads);
                stands(cut + " ", roads);
            } else {
                Check.fault(cut, 1, length);
                Check.fault(cut + "  ", 1, length + 2);
                MovedStones x = Check.of(text);
                Check.due("'" + cut + "' behind a longer text", Check.march(x, cut), -11);
                Check.due("'" + cut + "' behind a longer text: its letter", x.fault(), length);
            }
        }
        Check.due("all was told", roads, 2);
    }

    /** "1 it cannot stand there (a letter that is no word, another word first than 'm')": all 256 letters at each kind of place. */
    private static void otherLetters() {
        for (int i = 0; i <= 255; i++) {
            char letter = (char) i;
            boolean figure = i >= '0' && i <= '9';
            if (i != ' ') {
                Check.fault("" + letter, 1, i == 'm' ? 1 : 0);
            }
            if (i == 'm') {
                Check.fault("m2 1 1;" + letter, 3, 7);
            } else if (i != ' ') {
                Check.fault("m2 1 1;" + letter, 1, i == 'r' || i == 't' ? 8 : 7);
            }
            if (figure) {
                Check.fault("m" + letter, i >= '2' && i <= '6' ? 1 : 2, i >= '2' && i <= '6' ? 2 : 1);
                Check.fault("m2 1 1" + letter, 2, 5);
            } else {
                Check.fault("m" + letter, 1, i == ' ' ? 2 : 1);
                if (i != ';') {
                    Check.fault("m2 1 1" + letter, 1, i == ' ' ? 7 : 6);
                }
            }
            String treaty = "m2 1 1;r0 1 1 1 0;t0 0 ";
            Check.fault(treaty + letter, 1, figure || i == ' ' || i == ',' ? 24 : 23);
            Check.fault(treaty + "," + letter, i == '0' ? 4 : figure ? 2 : 1, i == ' ' ? 25 : 24);
        }
    }

    /** "at the first letter that has one", "of these the least": two FAULTS at one letter. */
    private static void theLeastFault() {
        Check.fault("m2 1 m", 1, 5);
        Check.fault("m2 1 1 1000;", 1, 7);
        Check.fault("m2 1 1;1000", 1, 7);
        Check.fault(ROADS + "t0 0 1 r", 1, ROADS.length() + 7);
        Check.fault(ROADS + TREATIES.substring(0, 41) + "t", 1, ROADS.length() + 41);
        Check.fault("m2 1 1;r0 0000 1 1 0;", 2, 10);
        Check.fault("m3 1 1;r0 1 1 1 0;r0 0001 1 1 0;", 2, 21);
        Check.fault("m3 1 1;r0 1 1 1 0;r1 2 1 1 0;t0 1,0000 1;", 2, 34);
        Check.fault("m3 1 1;r0 1 1 1 0;r1 2 1 1 0;t0 1,0001 1;", 2, 34);
    }

    /** "FAULTS, at the first letter that has one": an earlier FAULT of a greater number is told. */
    private static void theFirstFault() {
        Check.fault("m2 1 1;r0 0 x", 4, 10);
        Check.fault("m2 1 1;r0 0 100 1 0;", 4, 10);
        Check.fault("m2 1 1;m1", 3, 7);
        Check.fault("m2 1 1;m x", 3, 7);
        Check.fault("m7 x", 2, 1);
        Check.fault("m7", 2, 1);
        Check.fault("m2 1 1;r5 5 1 1 0;", 2, 8);
        Check.fault("m2 1 1;r0 1 1 1 0;t0 0,0 x", 4, 23);
        Check.fault("m2 1 1;r0 1 1 1 0;t0 5,0 1;", 2, 21);
    }

    /** "An empty text: no TOWNS." A text of blanks alone has no clause either. */
    private static void emptyTexts() {
        Twins.alike("an empty text", x -> {
            Twins.rich(x);
            x.march();
            x.march();
        }, x -> x.seed(seedOfRich()));
        MovedStones x = Check.of(MarchTest.TEXT);
        Check.due("march of an empty text", x.march(), 0);
        Check.due("its fault", x.fault(), Check.NONE);
        Check.due("its TOWNS", x.told(0), 0);
        Check.due("its COUNTIES", x.told(1), 0);
        Check.due("its S", x.told(2), 0);
        Check.due("its RIGHT", x.told(7), 0);
        Check.due("NOT: no TOWNS", x.year(1), Check.NOT);
        x = Check.of(MarchTest.TEXT);
        Check.march(x, MarchTest.TEXT);
        for (int i = 0; i < 2; i++) {
            Check.due("an empty text behind two", x.march(), 0);
            for (int what = 0; what <= 4; what++) {
                Check.due("nothing of the two: told(" + what + ")", x.told(what), 0);
            }
        }
        stands(" ", 0);
        stands("     ", 0);
    }

    private static int seedOfRich() {
        MovedStones x = new MovedStones();
        Twins.rich(x);
        return x.seed(0);
    }

    /** "THE TEXT (it is empty then, with a FAULT, too) becomes THE MARCH" */
    private static void emptyThen() {
        MovedStones x = new MovedStones();
        Check.due("march", Check.march(x, SMALL), 1);
        Check.due("empty", x.told(5), 0);
        Check.due("a march of what is left", x.march(), 0);
        Check.due("a FAULT", Check.march(x, "m2 1"), -11);
        Check.due("empty, too", x.told(5), 0);
        Check.due("a march of what is left", x.march(), 0);
        Check.due("then a text is read from its first letter on", Check.march(x, SMALL), 1);
    }

    /** "-10 less the number of its FAULT (all else is as it was)" */
    private static void allElseAsItWas() {
        String[] faulty = {"x", "m9 9 9;", "m2 1 1;m", "m2 1 1;r0 0", ROADS + "r", ROADS + TREATIES + "t", "m2 4 9;r0 1 77 88 3;t0 0 5;x"};
        int[] due = {-11, -12, -13, -14, -13, -13, -11};
        for (int i = 0; i < faulty.length; i++) {
            String text = faulty[i];
            Check.due("march of " + text, Check.march(new MovedStones(), text), due[i]);
            Twins.alike("a march of " + text, x -> {
                richWithoutText(x);
                Check.march(x, text);
            }, TextBoundsTest::richWithoutText);
        }
        MovedStones x = new MovedStones();
        richWithoutText(x);
        Check.due("what could be undone", x.told(17), 4);
        Check.due("what was wanted", x.told(16), 9);
    }

    private static void richWithoutText(MovedStones x) {
        Twins.rich(x);
        Check.due("a text of 'm2'", x.march(), -11);
    }

    /**
     * "becomes THE MARCH (YEAR 0, nothing SHIFTED, BROKEN; nothing wanted, no JOURNEYS, no BOOK; IMAGES, what could be undone are
     * gone; THE SEED stays)"
     */
    private static void becomesTheMarch() {
        int seed = seedOfRich();
        Check.due("THE SEED of what goes ahead is not 0", seed != 0);
        String[] texts = {SMALL, MarchTest.TEXT, ROADS + TREATIES, "m2 1 1;"};
        for (String text : texts) {
            Twins.alike("a march behind another, " + text, x -> {
                richWithoutText(x);
                Check.march(x, text);
            }, x -> {
                x.seed(seed);
                Check.march(x, text);
            });
        }
        MovedStones x = new MovedStones();
        richWithoutText(x);
        Check.march(x, SMALL);
        Check.due("IMAGE 0 is gone", x.goBack(0), Check.NOT);
        Check.due("IMAGE 1 is gone", x.goBack(1), Check.NOT);
        Check.due("nothing can be undone", x.undo(), Check.NOT);
    }

    /** "becomes THE MARCH": of a greater one that was there nothing is left, whatever is tried. */
    private static void lesserMarch() {
        String great = "m6 4 9;r0 1 9 99 1;r0 2 9 99 1;r0 3 9 99 1;r1 2 9 99 1;r1 3 9 1 1;r2 3 9 99 1;r3 4 1 1 2;r4 5 1 1 3;r0 5 1 1 0;"
            + "t0 0 5;t0 0 6;t1 1 1;t2 2 999;t0 0,1,2,3,4,5,6,7,8 7;t0 8 8;";
        String[] texts = {"m2 1 1;", "m2 2 3;r0 1 4 5 1;", "m3 1 2;r0 1 4 5 0;r1 2 6 7 0;t0 0 5;",
            "m4 1 2;r0 1 4 5 0;r1 2 6 7 0;r2 0 3 3 0;t0 0 6;t1 1,2 9;"};
        for (String text : texts) {
            Twins.alike("a lesser march, " + text, x -> {
                Check.march(x, great);
                Check.march(x, text);
            }, x -> Check.march(x, text));
            // Twice, as an object may hold the land of now and that of a text apart.
            Twins.alike("a lesser march behind two, " + text, x -> {
                Check.march(x, great);
                x.want(8, 7);
                x.march();
                Check.march(x, text);
                x.journey(0, 5);
            }, x -> {
                Check.march(x, text);
                x.journey(0, 5);
            });
        }
    }

    /** "The letter of the FAULT of the latest march(); NONE." */
    private static void faultOfTheLatest() {
        MovedStones x = new MovedStones();
        Check.due("no march yet", x.fault(), Check.NONE);
        Check.feed(x, "m2 1 1;x");
        Check.due("not marched yet", x.fault(), Check.NONE);
        x.march();
        Check.due("of the latest", x.fault(), 7);
        Check.due("again", x.fault(), 7);
        x.feed('x');
        Check.due("a letter is no march", x.fault(), 7);
        x.march();
        Check.due("of the latest, at 0", x.fault(), 0);
        Check.march(x, "m2 1 1;");
        Check.due("it has none", x.fault(), Check.NONE);
        Check.march(x, "m2 1 1;;");
        Check.due("one again", x.fault(), 7);
        x.march();
        Check.due("an empty text has none", x.fault(), Check.NONE);
    }
}
