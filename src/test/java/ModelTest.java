import java.util.ArrayList;
import java.util.List;
import java.util.Random;

/** Runs of calls by lot, right and wrong ones, on the class and on the plain model: each answer must be alike. */
public final class ModelTest {
    private static final int RUNS = 1500;
    // What later calls answer is free.
    private static final int MOST_CALLS = 512;
    private static final String[] CALLS = {
        "fault", "told", "told", "road", "treaty", "shift", "shift", "shift", "shift", "year", "strike", "drift", "undo", "undo",
        "way", "truly", "truly", "adds", "mend", "mend", "want", "want", "want", "dawns", "dawns", "round", "deceive", "deceive", "fee",
        "owes", "clash", "rate", "journey", "liars", "fits", "write", "write", "tear", "judge", "seed", "keep", "goBack"};

    private final Random lot;
    private final MovedStones stones = new MovedStones();
    private final PlainModel model = new PlainModel();
    private final List<String> told = new ArrayList<>();
    private boolean alike = true;
    private int calls;

    private ModelTest(int run) {
        lot = new Random(run);
    }

    public static void main(String[] args) {
        int runs = args.length > 0 ? Integer.parseInt(args[0]) : RUNS;
        for (int run = 0; run < runs; run++) {
            ModelTest test = new ModelTest(run);
            test.play();
            Check.due("run " + run + ": " + String.join(" ", test.told), test.alike);
        }
        Check.end();
    }

    private void play() {
        while (calls < MOST_CALLS && alike) {
            if (calls == 0 || lot.nextInt(60) == 0) {
                String text = text();
                for (int i = 0; i < text.length() && alike; i++) {
                    call("feed", text.charAt(i), 0, 0);
                }
                call("march", 0, 0, 0);
                call("fault", 0, 0, 0);
            }
            String name = CALLS[lot.nextInt(CALLS.length)];
            call(name, first(name), second(name), third(name));
            if (lot.nextInt(200) == 0) {
                call("feed", lot.nextInt(300) - 20, 0, 0);
            }
        }
    }

    private int odd(int most) {
        int kind = lot.nextInt(40);
        if (kind == 0) {
            return lot.nextInt();
        }
        return kind < 5 ? lot.nextInt(most + 4) - 2 : lot.nextInt(most + 1);
    }

    private int someRoad() {
        return odd(Math.max(0, model.roadsNow() - 1));
    }

    private int first(String name) {
        switch (name) {
            case "told": return odd(17);
            case "road": case "shift": case "want": case "fits": case "write": return someRoad();
            case "mend": return lot.nextInt(3) == 0 ? -1 : someRoad();
            case "dawns": return odd(6) - 1;
            case "year": return lot.nextInt(4) > 0 ? 1 + lot.nextInt(3) : odd(99);
            case "drift": return lot.nextInt(2) > 0 ? 1 + lot.nextInt(3) : odd(99);
            case "journey": return lot.nextInt(9) == 0 ? odd(512) : lot.nextInt(1 << model.roadsNow());
            case "seed": return lot.nextInt();
            case "round": return odd(2);
            case "keep": case "goBack": return odd(1);
            case "owes": return odd(3);
            default: return odd(5);
        }
    }

    private int second(String name) {
        switch (name) {
            case "road": return odd(6);
            case "treaty": return odd(4);
            case "shift": return lot.nextInt(19) - 9 + (lot.nextInt(20) == 0 ? lot.nextInt() : 0);
            case "want": return lot.nextInt(9) == 0 ? odd(1000) : lot.nextInt(14);
            case "write": return lot.nextInt(9) == 0 ? odd(1000) : lot.nextInt(14);
            case "journey": return lot.nextInt(9) == 0 ? odd(1000) : lot.nextInt(60);
            case "fits": return odd(1);
            default: return odd(5);
        }
    }

    private int third(String name) {
        return name.equals("way") ? lot.nextInt(2) : odd(4) - 1;
    }

    private void call(String name, int a, int b, int c) {
        if (calls == MOST_CALLS) {
            return;
        }
        calls++;
        int want = model.call(name, a, b, c);
        int got = answer(name, a, b, c);
        told.add(name + "(" + a + "," + b + "," + c + ")=" + got);
        if (got != want) {
            told.add("but due is " + want);
            alike = false;
        }
    }

    private String text() {
        if (lot.nextInt(30) == 0) {
            return " ".repeat(lot.nextInt(3));
        }
        boolean whole = lot.nextInt(3) == 0;
        int towns = whole ? 6 : 2 + lot.nextInt(5);
        int counties = 1 + lot.nextInt(4);
        int far = lot.nextInt(3) == 0 ? 99 : 2 + lot.nextInt(10);
        List<String> parts = new ArrayList<>();
        parts.add("m" + towns + " " + counties + " " + (1 + lot.nextInt(9)) + ";");
        List<Integer> pairs = new ArrayList<>();
        int roads = whole ? 60 : lot.nextInt(11);
        int treaties = whole ? 6 : lot.nextInt(8);
        int put = 0;
        for (int i = 0; i < roads && (put < 9 || lot.nextInt(90) == 0); i++) {
            int a = lot.nextInt(towns);
            int b = lot.nextInt(towns);
            int pair = Math.min(a, b) * 10 + Math.max(a, b);
            if ((a == b || pairs.contains(pair)) && lot.nextInt(40) > 0) {
                continue;
            }
            pairs.add(pair);
            parts.add("r" + a + " " + b + " " + (1 + lot.nextInt(far)) + " " + (1 + lot.nextInt(far)) + " " + lot.nextInt(counties) + ";");
            put++;
        }
        for (int i = 0; i < treaties && put > 0; i++) {
            int set = lot.nextInt(3) == 0 ? 1 + lot.nextInt((1 << put) - 1) : 1 << lot.nextInt(put) | 1 << lot.nextInt(put);
            StringBuilder part = new StringBuilder("t").append(lot.nextInt(3)).append(' ');
            for (int r = 0; r < put; r++) {
                if ((set >> r & 1) != 0) {
                    part.append(part.charAt(part.length() - 1) == ' ' ? "" : ",").append(r);
                }
            }
            parts.add(part.append(' ').append(lot.nextInt(Integer.bitCount(set) * far + 3)).append(';').toString());
        }
        return spoiled(String.join("", parts));
    }

    private String spoiled(String text) {
        StringBuilder all = new StringBuilder(text);
        if (lot.nextInt(3) == 0) {
            for (int i = lot.nextInt(6); i > 0; i--) {
                all.insert(lot.nextInt(all.length() + 1), ' ');
            }
        }
        String letters = " ;,mrt0123456789x";
        if (lot.nextInt(5) == 0) {
            for (int i = 1 + lot.nextInt(2); i > 0; i--) {
                int at = lot.nextInt(all.length());
                char letter = letters.charAt(lot.nextInt(letters.length()));
                int kind = lot.nextInt(4);
                if (kind == 0 && all.length() > 1) {
                    all.deleteCharAt(at);
                } else if (kind == 1) {
                    all.insert(at, letter);
                } else if (kind == 2) {
                    all.setCharAt(at, letter);
                } else {
                    all.setLength(at + 1);
                }
            }
        }
        all.setLength(Math.min(all.length(), 250));
        return all.toString();
    }

    private int answer(String name, int a, int b, int c) {
        switch (name) {
            case "feed": return stones.feed(a);
            case "march": return stones.march();
            case "fault": return stones.fault();
            case "told": return stones.told(a);
            case "road": return stones.road(a, b);
            case "treaty": return stones.treaty(a, b);
            case "shift": return stones.shift(a, b);
            case "year": return stones.year(a);
            case "strike": return stones.strike();
            case "drift": return stones.drift(a);
            case "undo": return stones.undo();
            case "way": return stones.way(a, b, c != 0);
            case "truly": return stones.truly(a, b, c);
            case "adds": return stones.adds();
            case "mend": return stones.mend(a);
            case "want": return stones.want(a, b);
            case "dawns": return stones.dawns(a);
            case "round": return stones.round(a);
            case "deceive": return stones.deceive(a, b);
            case "fee": return stones.fee(a, b, c);
            case "owes": return stones.owes(a);
            case "clash": return stones.clash();
            case "rate": return stones.rate(a, b);
            case "journey": return stones.journey(a, b);
            case "liars": return stones.liars();
            case "fits": return stones.fits(a, b);
            case "write": return stones.write(a, b);
            case "tear": return stones.tear();
            case "judge": return stones.judge();
            case "seed": return stones.seed(a);
            case "keep": return stones.keep(a);
            case "goBack": return stones.goBack(a);
            default: throw new IllegalArgumentException(name);
        }
    }
}
