import java.util.ArrayList;
import java.util.List;

/** What the document says of all REFUSALS: their order, and that nothing changes by them. */
public final class RefusalTest {
    private record Named(String name, Twins.Call call) {
    }

    private static final int[] EDGES = {Check.LOW, -10, -2, -1, 0, 1, 2, 6, 9, 10, 18, 100, 256, 1000, Check.HIGH};

    public static void main(String[] args) {
        farBelow();
        theFirstInThisOrder();
        changesNothing();
        Check.end();
    }

    private static boolean isRefusal(int answer) {
        return answer <= Check.UNKNOWN && answer >= Check.FULL;
    }

    /** "They are far below all that is counted: -1000000001 and on."; "NONE is -1." */
    private static void farBelow() {
        Check.due("NONE", MovedStones.NONE, -1);
        Check.due("UNKNOWN", MovedStones.UNKNOWN, -1000000001);
        Check.due("OUTSIDE", MovedStones.OUTSIDE, -1000000002);
        Check.due("NOT", MovedStones.NOT, -1000000003);
        Check.due("FULL", MovedStones.FULL, -1000000004);
    }

    private static void full(MovedStones x) {
        Twins.rich(x);
        for (int r = 0; r < 5; r++) {
            x.want(r, 5);
        }
        for (int i = 0; i < 8; i++) {
            x.journey(1, 5);
        }
        for (int i = 0; i < 15; i++) {
            x.write(1, 5);
        }
    }

    private static void late(MovedStones x) {
        Check.march(x, "m2 2 3;r0 1 5 3 0;t0 0 6;");
        x.keep(1);
        for (int i = 0; i < 92; i++) {
            x.year(99);
        }
        x.journey(1, 5);
        x.seed(6);
    }

    private static void fullText(MovedStones x) {
        Check.march(x, "m2 2 3;r0 1 5 3 0;t0 0 6;");
        Check.feed(x, "m2 1 1;r0 1 1 1 0;");
        for (int i = 18; i < 250; i++) {
            x.feed(' ');
        }
    }

    /**
     * "REFUSALS, of several the first in this order: UNKNOWN", "OUTSIDE (another number out of its bounds), NOT (not now, as told),
     * FULL."
     */
    private static void theFirstInThisOrder() {
        Twins.unchanged("feed: OUTSIDE, FULL", RefusalTest::fullText, x -> x.feed(-1), Check.OUTSIDE);
        Twins.unchanged("road: UNKNOWN, OUTSIDE", RefusalTest::full, x -> x.road(6, 7), Check.UNKNOWN);
        Twins.unchanged("treaty: UNKNOWN, OUTSIDE", RefusalTest::full, x -> x.treaty(4, 5), Check.UNKNOWN);
        Twins.unchanged("shift: UNKNOWN, OUTSIDE", RefusalTest::full, x -> x.shift(6, 0), Check.UNKNOWN);
        Twins.unchanged("shift: OUTSIDE, NOT", RefusalTest::full, x -> x.shift(1, 10), Check.OUTSIDE);
        Twins.unchanged("shift: MILES OUTSIDE, NOT", RefusalTest::full, x -> x.shift(3, -5), Check.OUTSIDE);
        Twins.unchanged("year: OUTSIDE, NOT", x -> { }, x -> x.year(0), Check.OUTSIDE);
        Twins.unchanged("year: OUTSIDE, FULL", RefusalTest::late, x -> x.year(100), Check.OUTSIDE);
        Twins.unchanged("year: FULL", RefusalTest::late, x -> x.year(99), Check.FULL);
        Twins.unchanged("drift: OUTSIDE, NOT", x -> { }, x -> x.drift(0), Check.OUTSIDE);
        Twins.unchanged("drift: OUTSIDE, FULL", RefusalTest::late, x -> x.drift(100), Check.OUTSIDE);
        Twins.unchanged("drift: FULL", RefusalTest::late, x -> x.drift(99), Check.FULL);
        Twins.unchanged("want: UNKNOWN, OUTSIDE", RefusalTest::full, x -> x.want(6, 1000), Check.UNKNOWN);
        Twins.unchanged("want: UNKNOWN, FULL", RefusalTest::full, x -> x.want(6, 1), Check.UNKNOWN);
        Twins.unchanged("want: OUTSIDE, FULL", RefusalTest::full, x -> x.want(5, 1000), Check.OUTSIDE);
        Twins.unchanged("want: FULL", RefusalTest::full, x -> x.want(5, 999), Check.FULL);
        Twins.unchanged("journey: UNKNOWN, OUTSIDE", Twins::rich, x -> x.journey(64, 1000), Check.UNKNOWN);
        Twins.unchanged("journey: UNKNOWN, FULL", RefusalTest::full, x -> x.journey(64, 999), Check.UNKNOWN);
        Twins.unchanged("journey: OUTSIDE, FULL", RefusalTest::full, x -> x.journey(63, 1000), Check.OUTSIDE);
        Twins.unchanged("journey: FULL", RefusalTest::full, x -> x.journey(63, 999), Check.FULL);
        Twins.unchanged("fits: UNKNOWN, OUTSIDE", RefusalTest::full, x -> x.fits(6, 2), Check.UNKNOWN);
        Twins.unchanged("write: UNKNOWN, OUTSIDE", Twins::rich, x -> x.write(6, 0), Check.UNKNOWN);
        Twins.unchanged("write: UNKNOWN, FULL", RefusalTest::full, x -> x.write(6, 1), Check.UNKNOWN);
        Twins.unchanged("write: OUTSIDE, FULL", RefusalTest::full, x -> x.write(5, 0), Check.OUTSIDE);
        Twins.unchanged("write: FULL", RefusalTest::full, x -> x.write(5, 1), Check.FULL);
        Twins.unchanged("goBack: UNKNOWN, NOT", x -> { }, x -> x.goBack(2), Check.UNKNOWN);
    }

    private static List<Named> ofOne(int a) {
        List<Named> all = new ArrayList<>();
        all.add(new Named("feed(" + a + ")", x -> x.feed(a)));
        all.add(new Named("told(" + a + ")", x -> x.told(a)));
        all.add(new Named("year(" + a + ")", x -> x.year(a)));
        all.add(new Named("drift(" + a + ")", x -> x.drift(a)));
        all.add(new Named("mend(" + a + ")", x -> x.mend(a)));
        all.add(new Named("dawns(" + a + ")", x -> x.dawns(a)));
        all.add(new Named("round(" + a + ")", x -> x.round(a)));
        all.add(new Named("owes(" + a + ")", x -> x.owes(a)));
        all.add(new Named("seed(" + a + ")", x -> x.seed(a)));
        all.add(new Named("keep(" + a + ")", x -> x.keep(a)));
        all.add(new Named("goBack(" + a + ")", x -> x.goBack(a)));
        return all;
    }

    private static List<Named> ofTwo(int a, int b) {
        List<Named> all = new ArrayList<>();
        String two = "(" + a + ", " + b + ")";
        all.add(new Named("road" + two, x -> x.road(a, b)));
        all.add(new Named("treaty" + two, x -> x.treaty(a, b)));
        all.add(new Named("shift" + two, x -> x.shift(a, b)));
        all.add(new Named("way" + two, x -> x.way(a, b, b % 2 == 0)));
        all.add(new Named("truly" + two, x -> x.truly(a, b, a)));
        all.add(new Named("want" + two, x -> x.want(a, b)));
        all.add(new Named("deceive" + two, x -> x.deceive(a, b)));
        all.add(new Named("fee" + two, x -> x.fee(a, b, b)));
        all.add(new Named("fee of ROADS" + two, x -> x.fee(0, 1, a)));
        all.add(new Named("rate" + two, x -> x.rate(a, b)));
        all.add(new Named("journey" + two, x -> x.journey(a, b)));
        all.add(new Named("fits" + two, x -> x.fits(a, b)));
        all.add(new Named("write" + two, x -> x.write(a, b)));
        return all;
    }

    /** "What is refused changes nothing.": every call with numbers about every edge, in each of several states. */
    private static void changesNothing() {
        List<Named> calls = new ArrayList<>();
        calls.add(new Named("strike", MovedStones::strike));
        calls.add(new Named("undo", MovedStones::undo));
        for (int a : EDGES) {
            calls.addAll(ofOne(a));
        }
        int[] firsts = {Check.LOW, -1, 0, 1, 4, 6, 64, Check.HIGH};
        int[] seconds = {Check.LOW, -10, -9, -1, 0, 1, 5, 7, 10, 1000, Check.HIGH};
        for (int a : firsts) {
            for (int b : seconds) {
                calls.addAll(ofTwo(a, b));
            }
        }
        Twins.Past[] states = {x -> { }, RefusalTest::full, RefusalTest::late, RefusalTest::fullText};
        int refused = 0;
        for (int s = 0; s < states.length; s++) {
            for (Named named : calls) {
                MovedStones x = new MovedStones();
                states[s].on(x);
                int answer = named.call.on(x);
                if (isRefusal(answer)) {
                    refused++;
                    Twins.unchanged("state " + s + ": " + named.name, states[s], named.call, answer);
                }
            }
        }
        Check.due("many were refused", refused > 2000);
    }
}
