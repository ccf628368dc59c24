import java.util.ArrayDeque;
import java.util.ArrayList;
import java.util.Arrays;
import java.util.Deque;
import java.util.List;

/** The document's words by trying everything: slow, and made otherwise than the class, to be held against it. */
final class PlainModel {
    private static final int NONE = -1;
    private static final int UNKNOWN = -1000000001;
    private static final int OUTSIDE = -1000000002;
    private static final int NOT = -1000000003;
    private static final int FULL = -1000000004;

    private record Road(int a, int b, int feet, int miles, int county) {
    }

    private record Treaty(int kind, List<Integer> roads, int value) {
    }

    private record Past(int[] miles, int shifted, int year, int broken, int first, int firstYear, long seed) {
    }

    private record Fault(int at, int number) {
    }

    private StringBuilder text = new StringBuilder();
    private int faultAt = NONE;
    private int towns;
    private int counties;
    private int most;
    private List<Road> roads = new ArrayList<>();
    private List<Treaty> treaties = new ArrayList<>();
    private Past now = new Past(new int[0], 0, 0, 0, NONE, NONE, 0);
    private final Deque<Past> undo = new ArrayDeque<>();
    private final Past[] images = new Past[2];
    private int[] wanted = new int[0];
    private final List<int[]> journeys = new ArrayList<>();
    private final List<int[]> book = new ArrayList<>();

    int call(String name, int a, int b, int c) {
        switch (name) {
            case "feed": return feed(a);
            case "march": return march();
            case "fault": return faultAt;
            case "told": return told(a);
            case "road": return road(a, b);
            case "treaty": return treaty(a, b);
            case "shift": return shift(a, b);
            case "year": return years(a, false);
            case "strike": return strike();
            case "drift": return years(a, true);
            case "undo": return undo();
            case "way": return badTowns(a, b) ? UNKNOWN : length(best(a, b, c != 0 ? feet() : now.miles), c != 0 ? feet() : now.miles);
            case "truly": return truly(a, b, c);
            case "adds": return adds();
            case "mend": return mend(a);
            case "want": return want(a, b);
            case "dawns": return dawns(a);
            case "round": return round(a);
            case "deceive": return deceive(a, b);
            case "fee": return fee(a, b, c);
            case "owes": return owes(a);
            case "clash": return clash();
            case "rate": return rate(a, b);
            case "journey": return journey(a, b);
            case "liars": return liars();
            case "fits": return fits(a, b);
            case "write": return write(a, b);
            case "tear": return tear();
            case "judge": return judge();
            case "seed": return seed(a);
            case "keep": return keep(a);
            case "goBack": return goBack(a);
            default: throw new IllegalArgumentException(name);
        }
    }

    int roadsNow() {
        return roads.size();
    }

    private int feed(int letter) {
        if (letter < 0 || letter > 255) return OUTSIDE;
        if (text.length() == 250) return FULL;
        text.append((char) letter);
        return text.length();
    }

    private int march() {
        String whole = text.toString();
        text = new StringBuilder();
        List<Road> oldRoads = roads;
        List<Treaty> oldTreaties = treaties;
        int[] old = {towns, counties, most};
        roads = new ArrayList<>();
        treaties = new ArrayList<>();
        towns = counties = most = 0;
        Fault fault = read(whole);
        if (fault != null) {
            roads = oldRoads;
            treaties = oldTreaties;
            towns = old[0];
            counties = old[1];
            most = old[2];
            faultAt = fault.at;
            return -10 - fault.number;
        }
        faultAt = NONE;
        int[] miles = new int[roads.size()];
        for (int r = 0; r < miles.length; r++) miles[r] = roads.get(r).miles;
        now = new Past(miles, 0, 0, 0, NONE, NONE, now.seed);
        undo.clear();
        Arrays.fill(images, null);
        wanted = new int[roads.size()];
        journeys.clear();
        book.clear();
        return roads.size();
    }

    /** Tokens: runs of figures, and single letters. */
    private Fault read(String whole) {
        List<Integer> at = new ArrayList<>();
        List<String> token = new ArrayList<>();
        for (int i = 0; i < whole.length();) {
            int j = i;
            while (j < whole.length() && whole.charAt(j) >= '0' && whole.charAt(j) <= '9') j++;
            if (j == i) j++;
            String word = whole.substring(i, j);
            if (!word.equals(" ")) {
                at.add(i);
                token.add(word);
            }
            i = j;
        }
        at.add(whole.length());
        token.add("end");
        String place = "word";
        List<Integer> got = new ArrayList<>();
        char clause = 0;
        for (int i = 0; i < token.size(); i++) {
            String word = token.get(i);
            int where = at.get(i);
            boolean isNumber = Character.isDigit(word.charAt(0));
            if (clause == 0) {
                if (word.equals("end")) return null;
                if (word.equals("m") && towns > 0) return new Fault(where, 3);
                if (word.equals("m")) clause = 'm';
                else if (towns == 0 || !word.equals("r") && !word.equals("t")) return new Fault(where, 1);
                else if (word.equals("r") && roads.size() == 9 || word.equals("t") && treaties.size() == 6) return new Fault(where, 3);
                else clause = word.charAt(0);
                got.clear();
                place = "number";
                continue;
            }
            int need = clause == 'm' ? 3 : 5;
            if (clause == 't') {
                if (place.equals("sep") && word.equals(",")) {
                    place = "road";
                    continue;
                }
                if (place.equals("sep")) place = "value";
                if (place.equals("end")) {
                    if (!word.equals(";")) return new Fault(where, 1);
                    treaties.add(new Treaty(got.get(0), List.copyOf(got.subList(1, got.size() - 1)), got.get(got.size() - 1)));
                    clause = 0;
                    continue;
                }
                if (!isNumber) return new Fault(where, 1);
                if (word.length() > 3) return new Fault(where, 2);
                int v = Integer.parseInt(word);
                if (got.isEmpty()) {
                    if (v > 2) return new Fault(where, 2);
                    place = "road";
                } else if (place.equals("road")) {
                    if (v >= roads.size()) return new Fault(where, 2);
                    if (got.size() > 1 && v <= got.get(got.size() - 1)) return new Fault(where, 4);
                    place = "sep";
                } else {
                    place = "end";
                }
                got.add(v);
                continue;
            }
            if (got.size() == need) {
                if (!word.equals(";")) return new Fault(where, 1);
                if (clause == 'm') {
                    towns = got.get(0);
                    counties = got.get(1);
                    most = got.get(2);
                } else {
                    roads.add(new Road(got.get(0), got.get(1), got.get(2), got.get(3), got.get(4)));
                }
                clause = 0;
                continue;
            }
            if (!isNumber) return new Fault(where, 1);
            int[] low = clause == 'm' ? new int[] {2, 1, 1} : new int[] {0, 0, 1, 1, 0};
            int[] high = clause == 'm' ? new int[] {6, 4, 9} : new int[] {towns - 1, towns - 1, 99, 99, counties - 1};
            int v = word.length() > 3 ? 1000000 : Integer.parseInt(word);
            if (v < low[got.size()] || v > high[got.size()]) return new Fault(where, 2);
            got.add(v);
            if (clause == 'r' && got.size() == 2 && (got.get(0) == v || between(got.get(0), v) >= 0)) return new Fault(where, 4);
        }
        return null;
    }

    private int between(int a, int b) {
        for (int r = 0; r < roads.size(); r++) {
            Road road = roads.get(r);
            if (road.a == a && road.b == b || road.a == b && road.b == a) return r;
        }
        return NONE;
    }

    private boolean holds(Treaty t, int[] miles) {
        int sum = 0;
        for (int r : t.roads) sum += miles[r];
        return t.kind == 0 ? sum == t.value : t.kind == 1 ? sum <= t.value : sum >= t.value;
    }

    private int holding(int[] miles) {
        int set = 0;
        for (int t = 0; t < treaties.size(); t++) if (holds(treaties.get(t), miles)) set |= 1 << t;
        return set;
    }

    private int told(int what) {
        if (what < 0 || what > 17) return OUTSIDE;
        int wishes = 0;
        for (int r = 0; r < wanted.length; r++) if (wanted[r] > 0) wishes |= 1 << r;
        int[] answers = {towns, counties, most, roads.size(), treaties.size(), text.length(), now.year,
            counties == 0 ? 0 : now.year % counties, now.shifted, holding(now.miles), now.broken, now.first, now.firstYear,
            Arrays.stream(now.miles).sum(), journeys.size(), book.size(), wishes, undo.size()};
        return answers[what];
    }

    private boolean noRoad(int r) {
        return r < 0 || r >= roads.size();
    }

    private int road(int r, int what) {
        if (noRoad(r)) return UNKNOWN;
        if (what < 0 || what > 6) return OUTSIDE;
        Road road = roads.get(r);
        return new int[] {road.a, road.b, road.feet, now.miles[r], road.miles, road.county, wanted[r] == 0 ? NONE : wanted[r]}[what];
    }

    private int treaty(int t, int what) {
        if (t < 0 || t >= treaties.size()) return UNKNOWN;
        if (what < 0 || what > 4) return OUTSIDE;
        Treaty it = treaties.get(t);
        int set = 0;
        int sum = 0;
        for (int r : it.roads) {
            set |= 1 << r;
            sum += now.miles[r];
        }
        return new int[] {it.kind, set, it.value, sum, holds(it, now.miles) ? 1 : 0}[what];
    }

    private void done() {
        undo.addLast(now);
        if (undo.size() > 20) undo.removeFirst();
    }

    private int shift(int r, int d) {
        if (noRoad(r)) return UNKNOWN;
        if (d < -9 || d > 9 || d == 0) return OUTSIDE;
        if (now.miles[r] + d < 1 || now.miles[r] + d > 999) return OUTSIDE;
        if (!mayShift(r, d)) return NOT;
        done();
        now = shifted(now, r, d);
        return now.miles[r];
    }

    private boolean mayShift(int r, int d) {
        return d <= most && -d <= most && roads.get(r).county == now.year % counties && (now.shifted & 1 << r) == 0;
    }

    private static Past shifted(Past p, int r, int d) {
        int[] miles = p.miles.clone();
        miles[r] += d;
        return new Past(miles, p.shifted | 1 << r, p.year, p.broken, p.first, p.firstYear, p.seed);
    }

    private int[] feet() {
        int[] feet = new int[roads.size()];
        for (int r = 0; r < feet.length; r++) feet[r] = roads.get(r).feet;
        return feet;
    }

    private int strike() {
        if (towns == 0) return NOT;
        done();
        int others = 0;
        for (int r = 0; r < roads.size(); r++) if (now.miles[r] != roads.get(r).feet) others++;
        now = new Past(feet(), 0, now.year, now.broken, now.first, now.firstYear, now.seed);
        return others;
    }

    private int draw(int n) {
        long seed = (now.seed * 1103515245L + 12345L) % (1L << 31);
        now = new Past(now.miles, now.shifted, now.year, now.broken, now.first, now.firstYear, seed);
        return (int) (seed / 65536 % n);
    }

    private int years(int n, boolean byDraws) {
        if (n < 1 || n > 99) return OUTSIDE;
        if (towns == 0) return NOT;
        if (now.year > 9000) return FULL;
        done();
        for (int i = 0; i < n; i++) {
            if (byDraws) {
                if (draw(12) == 0) {
                    now = new Past(feet(), 0, now.year, now.broken, now.first, now.firstYear, now.seed);
                } else {
                    int r = roads.isEmpty() ? NONE : draw(roads.size());
                    int d = draw(2 * most + 1) - most;
                    if (r != NONE && d != 0 && now.miles[r] + d >= 1 && now.miles[r] + d <= 999 && mayShift(r, d)) now = shifted(now, r, d);
                }
            }
            int first = now.first;
            int firstYear = now.firstYear;
            int broken = now.broken;
            for (int t = treaties.size() - 1; t >= 0; t--) {
                if (!holds(treaties.get(t), now.miles)) {
                    broken |= 1 << t;
                    if (now.first == NONE) {
                        first = t;
                        firstYear = now.year;
                    }
                }
            }
            now = new Past(now.miles, 0, now.year + 1, broken, first, firstYear, now.seed);
        }
        return now.year;
    }

    private int undo() {
        if (undo.isEmpty()) return NOT;
        Past p = undo.removeLast();
        now = new Past(p.miles, p.shifted, p.year, p.broken, p.first, p.firstYear, now.seed);
        return undo.size();
    }

    private boolean badTowns(int a, int b) {
        return a < 0 || a >= towns || b < 0 || b >= towns || a == b;
    }

    private static int length(List<Integer> way, int[] lengths) {
        if (way == null) return NONE;
        int sum = 0;
        for (int r : way) sum += lengths[r];
        return sum;
    }

    /** All ways without a TOWN twice, in the order of their ROADS; the first of the least. */
    private List<Integer> best(int a, int b, int[] lengths) {
        List<List<Integer>> all = new ArrayList<>();
        collect(a, b, 1 << a, new ArrayList<>(), all);
        List<Integer> best = null;
        for (List<Integer> way : all) if (best == null || length(way, lengths) < length(best, lengths)) best = way;
        return best;
    }

    private void collect(int town, int goal, int been, List<Integer> way, List<List<Integer>> all) {
        if (town == goal) {
            all.add(new ArrayList<>(way));
            return;
        }
        for (int r = 0; r < roads.size(); r++) {
            Road road = roads.get(r);
            if (road.a != town && road.b != town) continue;
            int other = road.a + road.b - town;
            if ((been & 1 << other) != 0) continue;
            way.add(r);
            collect(other, goal, been | 1 << other, way, all);
            way.remove(way.size() - 1);
        }
    }

    private int truly(int a, int b, int i) {
        if (badTowns(a, b)) return UNKNOWN;
        List<Integer> way = best(a, b, now.miles);
        if (way == null) return NONE;
        if (i == NONE) return length(way, feet());
        return i < 0 || i >= way.size() ? NONE : way.get(i);
    }

    private int adds() {
        for (int three = 0; three < 1000; three++) {
            int a = three / 100;
            int b = three / 10 % 10;
            int c = three % 10;
            if (a >= b || b >= c || between(a, b) < 0 || between(b, c) < 0 || between(a, c) < 0) continue;
            int x = now.miles[between(a, b)];
            int y = now.miles[between(b, c)];
            int z = now.miles[between(a, c)];
            if (x > y + z || y > x + z || z > x + y) return three;
        }
        return NONE;
    }

    private int mend(int r) {
        if (r != NONE && noRoad(r)) return UNKNOWN;
        int[][] best = new int[1][];
        change(new int[roads.size()], 0, 4, best);
        if (best[0] == null) return NONE;
        return r == NONE ? total(best[0]) : best[0][r] + 100;
    }

    private static int total(int[] change) {
        int sum = 0;
        for (int d : change) sum += Math.abs(d);
        return sum;
    }

    private void change(int[] change, int r, int left, int[][] best) {
        if (r == change.length) {
            if (best[0] != null && total(change) >= total(best[0])) return;
            int[] miles = now.miles.clone();
            for (int i = 0; i < miles.length; i++) {
                miles[i] += change[i];
                if (miles[i] < 1 || miles[i] > 999) return;
            }
            if (holding(miles) == (1 << treaties.size()) - 1) best[0] = change.clone();
            return;
        }
        for (int d = -left; d <= left; d++) {
            change[r] = d;
            change(change, r + 1, left - Math.abs(d), best);
        }
        change[r] = 0;
    }

    private int want(int r, int miles) {
        if (noRoad(r)) return UNKNOWN;
        if (miles < 0 || miles > 999) return OUTSIDE;
        int others = 0;
        for (int i = 0; i < wanted.length; i++) if (i != r && wanted[i] > 0) others++;
        if (miles > 0 && others == 5) return FULL;
        wanted[r] = miles;
        return others + (miles > 0 ? 1 : 0);
    }

    private int dawns(int i) {
        List<Integer> open = new ArrayList<>();
        for (int r = 0; r < wanted.length; r++) if (wanted[r] > 0 && wanted[r] != now.miles[r]) open.add(r);
        List<List<Integer>> orders = new ArrayList<>();
        permute(open, new ArrayList<>(), orders);
        for (List<Integer> order : orders) {
            int[] miles = now.miles.clone();
            boolean good = true;
            for (int r : order) {
                miles[r] = wanted[r];
                for (Treaty t : treaties) if (holds(t, now.miles) && !holds(t, miles)) good = false;
            }
            if (good) return i == NONE ? order.size() : i >= 0 && i < order.size() ? order.get(i) : NONE;
        }
        return NONE;
    }

    private static void permute(List<Integer> rest, List<Integer> order, List<List<Integer>> all) {
        if (rest.isEmpty()) all.add(new ArrayList<>(order));
        for (Integer r : rest) {
            List<Integer> less = new ArrayList<>(rest);
            less.remove(r);
            order.add(r);
            permute(less, order, all);
            order.remove(order.size() - 1);
        }
    }

    private int round(int what) {
        if (what < 0 || what > 2) return OUTSIDE;
        int[] best = null;
        for (int set = 1; set < 1 << roads.size(); set++) {
            int towns = ring(set);
            if (towns == 0) continue;
            int paid = 0;
            for (int r = 0; r < roads.size(); r++) if ((set & 1 << r) != 0) paid += now.miles[r] - roads.get(r).feet;
            if (best == null || paid > best[0] || paid == best[0] && towns < best[1]) best = new int[] {paid, towns, set};
        }
        return best == null ? NONE : what == 0 ? best[0] + 1000 : best[what];
    }

    /** The TOWNS of these ROADS if they are one ring, else 0. */
    private int ring(int set) {
        int[] degree = new int[6];
        int[] group = {0, 1, 2, 3, 4, 5};
        int all = 0;
        for (int r = 0; r < roads.size(); r++) {
            if ((set & 1 << r) == 0) continue;
            Road road = roads.get(r);
            degree[road.a]++;
            degree[road.b]++;
            all |= 1 << road.a | 1 << road.b;
            int from = group[road.a];
            int to = group[road.b];
            for (int t = 0; t < 6; t++) if (group[t] == from) group[t] = to;
        }
        int one = NONE;
        for (int t = 0; t < 6; t++) {
            if (degree[t] == 0) continue;
            if (degree[t] != 2 || one != NONE && one != group[t]) return 0;
            one = group[t];
        }
        return all;
    }

    private int deceive(int a, int b) {
        if (badTowns(a, b)) return UNKNOWN;
        List<Integer> way = best(a, b, now.miles);
        if (way == null) return NONE;
        int most = length(way, feet());
        int answer = NONE;
        for (int k = 0; k < 2 * roads.size(); k++) {
            int[] miles = now.miles.clone();
            miles[k / 2] += k % 2 == 0 ? -1 : 1;
            if (miles[k / 2] < 1 || miles[k / 2] > 999) continue;
            int feet = length(best(a, b, miles), feet());
            if (feet > most) {
                most = feet;
                answer = 10 * (k / 2) + k % 2;
            }
        }
        return answer;
    }

    private int fee(int a, int b, int county) {
        if (badTowns(a, b) || county < 0 || county >= counties) return UNKNOWN;
        List<Integer> way = best(a, b, now.miles);
        if (way == null) return NONE;
        int part = 0;
        for (int r : way) if (roads.get(r).county == county) part += now.miles[r];
        return part * 1000 / length(way, now.miles);
    }

    private int owes(int county) {
        if (county < 0 || county >= counties) return UNKNOWN;
        int sum = 1000;
        for (int r = 0; r < roads.size(); r++) if (roads.get(r).county == county) sum += now.miles[r] - roads.get(r).feet;
        return sum;
    }

    private int clash() {
        for (int t = 0; t < treaties.size(); t++) {
            for (int u = t + 1; u < treaties.size(); u++) {
                Treaty one = treaties.get(t);
                Treaty two = treaties.get(u);
                if (!one.roads.equals(two.roads)) continue;
                boolean can = false;
                for (int sum = one.roads.size(); sum < 9000; sum++) {
                    boolean first = one.kind == 0 ? sum == one.value : one.kind == 1 ? sum <= one.value : sum >= one.value;
                    boolean second = two.kind == 0 ? sum == two.value : two.kind == 1 ? sum <= two.value : sum >= two.value;
                    can |= first && second;
                }
                if (!can) return 10 * t + u;
            }
        }
        return NONE;
    }

    private int rate(int a, int b) {
        if (badTowns(a, b)) return UNKNOWN;
        int miles = length(best(a, b, now.miles), now.miles);
        if (miles == NONE) return NONE;
        int rate = 2;
        for (int paid = 10; paid < miles; paid += 10) rate++;
        return rate;
    }

    private int journey(int set, int feet) {
        for (int k = 0; k < 32; k++) if ((set & 1 << k) != 0 && k >= roads.size()) return UNKNOWN;
        if (feet < 0 || feet > 999) return OUTSIDE;
        if (journeys.size() == 8) return FULL;
        journeys.add(new int[] {set, feet});
        return journeys.size();
    }

    private boolean allSo(int[] feet) {
        for (int[] journey : journeys) {
            int sum = 0;
            for (int r = 0; r < feet.length; r++) if ((journey[0] & 1 << r) != 0) sum += feet[r];
            if (sum != journey[1]) return false;
        }
        return true;
    }

    private int liars() {
        if (allSo(feet())) return 0;
        int set = 0;
        for (int r = 0; r < roads.size(); r++) {
            for (int f = 1; f <= 99; f++) {
                int[] feet = feet();
                if (feet[r] == f) continue;
                feet[r] = f;
                if (allSo(feet)) set |= 1 << r;
            }
        }
        return set;
    }

    private int fits(int r, int what) {
        if (noRoad(r)) return UNKNOWN;
        if (what < 0 || what > 1) return OUTSIDE;
        int many = 0;
        int least = NONE;
        for (int f = 99; f >= 1; f--) {
            int[] feet = feet();
            feet[r] = f;
            if (allSo(feet)) {
                many++;
                least = f;
            }
        }
        return what == 0 ? many : least;
    }

    private int write(int r, int miles) {
        if (noRoad(r)) return UNKNOWN;
        if (miles < 1 || miles > 999) return OUTSIDE;
        if (book.size() == 15) return FULL;
        book.add(new int[] {r, miles});
        return book.size();
    }

    private int tear() {
        int torn = journeys.size() + book.size();
        journeys.clear();
        book.clear();
        Arrays.fill(wanted, 0);
        return torn;
    }

    private int judge() {
        for (int e = 0; e < book.size(); e++) if (now.miles[book.get(e)[0]] != book.get(e)[1]) return e;
        return NONE;
    }

    private int seed(int v) {
        if (v < 0) return OUTSIDE;
        int old = (int) now.seed;
        now = new Past(now.miles, now.shifted, now.year, now.broken, now.first, now.firstYear, v);
        return old;
    }

    private int keep(int i) {
        if (i < 0 || i > 1) return UNKNOWN;
        images[i] = now;
        undo.clear();
        return 1;
    }

    private int goBack(int i) {
        if (i < 0 || i > 1) return UNKNOWN;
        if (images[i] == null) return NOT;
        now = images[i];
        undo.clear();
        return 1;
    }
}
