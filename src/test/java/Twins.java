/** Two objects, asked alike but for one thing: whatever is asked then, they must answer alike. */
final class Twins {
    interface Past {
        void on(MovedStones x);
    }

    interface Call {
        int on(MovedStones x);
    }

    private interface Probe {
        String of(MovedStones x);
    }

    /** Each is put to fresh objects, so that no object is asked more than the document's 512 calls. */
    private static final Probe[] PROBES = {
        Twins::land, Twins::tried, Twins::papers, Twins::undone, x -> image(x, 0), x -> image(x, 1), Twins::drawn, Twins::text};

    private Twins() {
    }

    /** A past in which there is something of all that could be lost. */
    static void rich(MovedStones x) {
        Check.march(x, MarchTest.TEXT);
        x.seed(7);
        x.shift(0, 2);
        x.year(1);
        x.keep(0);
        x.drift(3);
        x.keep(1);
        x.shift(2, -3);
        x.year(1);
        x.strike();
        x.shift(1, 4);
        x.want(0, 11);
        x.want(3, 6);
        x.journey(3, 18);
        x.journey(20, 28);
        x.write(0, 9);
        x.write(1, 13);
        x.write(1, 14);
        x.feed('m');
        x.feed('2');
    }

    /** The call answers what is due, and nothing has changed by it. */
    static void unchanged(String what, Past past, Call call, int due) {
        MovedStones x = made(past);
        Check.due(what, call.on(x), due);
        alike(what, y -> {
            past.on(y);
            call.on(y);
        }, past);
        MovedStones y = made(past);
        Check.due(what + ": fault behind it", x.fault(), y.fault());
    }

    /** Two pasts that come to the same, but for fault(). */
    static void alike(String what, Past one, Past other) {
        for (int i = 0; i < PROBES.length; i++) {
            String first = PROBES[i].of(made(one));
            String second = PROBES[i].of(made(other));
            Check.due(what + ": not alike:\n  " + first + "\n  " + second, first.equals(second));
        }
    }

    private static MovedStones made(Past past) {
        MovedStones x = new MovedStones();
        past.on(x);
        return x;
    }

    private static String land(MovedStones x) {
        StringBuilder all = new StringBuilder("land");
        for (int what = 0; what <= 17; what++) {
            all.append(' ').append(x.told(what));
        }
        for (int r = 0; r <= 9; r++) {
            for (int what = 0; what <= 6; what++) {
                all.append(' ').append(x.road(r, what));
            }
        }
        for (int t = 0; t <= 6; t++) {
            for (int what = 0; what <= 4; what++) {
                all.append(' ').append(x.treaty(t, what));
            }
        }
        return all.toString();
    }

    private static String tried(MovedStones x) {
        StringBuilder all = new StringBuilder("tried");
        for (int a = 0; a < 6; a++) {
            for (int b = a + 1; b < 6; b++) {
                all.append(' ').append(x.way(a, b, false)).append(' ').append(x.way(a, b, true));
                all.append(' ').append(x.truly(a, b, -1)).append(' ').append(x.truly(b, a, 0));
                all.append(' ').append(x.deceive(a, b)).append(' ').append(x.fee(b, a, 0)).append(' ').append(x.rate(a, b));
            }
        }
        for (int i = 0; i < 4; i++) {
            all.append(' ').append(x.owes(i)).append(' ').append(x.round(i));
        }
        for (int r = -1; r <= 9; r++) {
            all.append(' ').append(x.mend(r)).append(' ').append(x.dawns(r));
        }
        return all.append(' ').append(x.adds()).append(' ').append(x.clash()).toString();
    }

    private static String papers(MovedStones x) {
        StringBuilder all = new StringBuilder("papers ").append(x.liars()).append(' ').append(x.judge());
        for (int r = 0; r <= 9; r++) {
            all.append(' ').append(x.fits(r, 0)).append(' ').append(x.fits(r, 1));
        }
        return all.append(' ').append(x.tear()).toString();
    }

    private static void state(MovedStones x, StringBuilder all) {
        int[] whats = {6, 8, 10, 11, 12, 13};
        for (int what : whats) {
            all.append(' ').append(x.told(what));
        }
    }

    private static String undone(MovedStones x) {
        StringBuilder all = new StringBuilder("undone");
        for (int i = 0; i <= 20; i++) {
            all.append(' ').append(x.undo());
            state(x, all);
        }
        return all.toString();
    }

    private static String image(MovedStones x, int i) {
        StringBuilder all = new StringBuilder("image ").append(i).append(' ').append(x.goBack(i));
        state(x, all);
        for (int r = 0; r < 9; r++) {
            all.append(' ').append(x.road(r, 3));
        }
        return all.append(' ').append(x.seed(0)).toString();
    }

    private static String drawn(MovedStones x) {
        StringBuilder all = new StringBuilder("drawn ").append(x.drift(5));
        state(x, all);
        return all.append(' ').append(x.seed(0)).toString();
    }

    private static String text(MovedStones x) {
        StringBuilder all = new StringBuilder("text ").append(x.told(5)).append(' ').append(x.march()).append(' ').append(x.fault());
        return all.append(' ').append(x.told(0)).append(' ').append(x.told(3)).toString();
    }
}
