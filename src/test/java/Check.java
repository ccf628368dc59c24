/** What the tests share: texts are fed, answers are held against those due. */
final class Check {
    static final int NONE = MovedStones.NONE;
    static final int UNKNOWN = MovedStones.UNKNOWN;
    static final int OUTSIDE = MovedStones.OUTSIDE;
    static final int NOT = MovedStones.NOT;
    static final int FULL = MovedStones.FULL;
    static final int LOW = Integer.MIN_VALUE;
    static final int HIGH = Integer.MAX_VALUE;

    private static int wrong = 0;

    private Check() {
    }

    static void due(String call, int got, int want) {
        if (got != want) {
            wrong++;
            System.out.println(call + " answered " + got + ", due is " + want);
        }
    }

    static void due(String call, boolean right) {
        if (!right) {
            wrong++;
            System.out.println(call);
        }
    }

    static void due(String call, boolean got, boolean want) {
        due(call, got == want);
    }

    static void feed(MovedStones x, String text) {
        for (int i = 0; i < text.length(); i++) {
            due("feed of letter " + i + " of " + text, x.feed(text.charAt(i)), i + 1);
        }
    }

    static int march(MovedStones x, String text) {
        feed(x, text);
        return x.march();
    }

    static MovedStones of(String text) {
        MovedStones x = new MovedStones();
        due("march of " + text, march(x, text) >= 0 ? 1 : 0, 1);
        return x;
    }

    static void fault(String text, int number, int letter) {
        MovedStones x = new MovedStones();
        due("march of '" + text + "'", march(x, text), -10 - number);
        due("fault of '" + text + "'", x.fault(), letter);
    }

    static void end() {
        if (wrong != 0) {
            System.out.println(wrong + " answers are not as due");
            System.exit(1);
        }
        System.out.println("as due");
    }
}
