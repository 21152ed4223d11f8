import java.util.ArrayList;
import java.util.Arrays;
import java.util.Collection;
import java.util.HashMap;
import java.util.HashSet;
import java.util.List;
import java.util.Map;
import java.util.Set;
import java.util.TreeSet;

/**
 * The document told once more, as slowly and as near to its words as can be: FAMILIES are sets of MASKS, and
 * every set of ROADS is looked at. Random runs compare WayBook with it.
 */
final class PlainBook {
    static final int NONE = -1, BAD = -2, STATE = -3, FULL = -4;

    private record Road(int a, int b, int weight) {
        boolean at(int post) {
            return a == post || b == post;
        }

        int other(int post) {
            return a == post ? b : a;
        }
    }

    /** ACTS, as the document writes their bodies. */
    private static class Family {
        final List<Integer> trace;
        final int n;

        Family(int n, List<Integer> trace) {
            this.n = n;
            this.trace = trace;
        }

        int fits(int x) {
            trace.add(10);
            return x + n;
        }

        int joins(int x) {
            trace.add(11);
            return fits(x) * 3;
        }

        int weighs(int x) {
            trace.add(12);
            return joins(x) - fits(x + 1);
        }
    }

    private static class Paths extends Family {
        Paths(int n, List<Integer> trace) {
            super(n, trace);
        }

        @Override
        int fits(int x) {
            trace.add(20);
            return super.fits(x) * 2;
        }

        @Override
        int weighs(int x) {
            trace.add(21);
            return super.weighs(x) ^ 5;
        }
    }

    private static final class Rounds extends Paths {
        Rounds(int n, List<Integer> trace) {
            super(n, trace);
        }

        @Override
        int joins(int x) {
            trace.add(30);
            return super.joins(x) + fits(x);
        }
    }

    private static class Trees extends Family {
        Trees(int n, List<Integer> trace) {
            super(n, trace);
        }

        @Override
        int joins(int x) {
            trace.add(40);
            return super.joins(x + n);
        }
    }

    private static final class Pairs extends Family {
        Pairs(int n, List<Integer> trace) {
            super(n, trace);
        }

        @Override
        int weighs(int x) {
            trace.add(50);
            return fits(x) - super.weighs(x);
        }
    }

    private static final class Parts extends Trees {
        Parts(int n, List<Integer> trace) {
            super(n, trace);
        }

        @Override
        int fits(int x) {
            trace.add(60);
            return super.fits(x) + 7;
        }

        @Override
        int joins(int x) {
            trace.add(61);
            return super.joins(x) * 2;
        }
    }

    private record Kept(int kind, Set<Integer> ways) {
    }

    /** Where a KNOT leads is its own set of WAYS, which tells it from all others. */
    private record Knot(int road, Set<Integer> no, Set<Integer> yes) {
    }

    private final List<Integer> loads = new ArrayList<>();
    private final List<Road> roads = new ArrayList<>();
    private final List<Integer> odds = new ArrayList<>();
    private final List<Kept> made = new ArrayList<>();
    private List<int[]> rows = new ArrayList<>();
    private final Object[] sheets = new Object[6];
    private final Object[] shelves = new Object[6];
    private List<Integer> trace = new ArrayList<>();

    // ---- the net

    int post(int load) {
        if (load < 0 || load > 99) {
            return BAD;
        }
        if (loads.size() == 8) {
            return FULL;
        }
        loads.add(load);
        return loads.size() - 1;
    }

    private boolean isPost(int post) {
        return post >= 0 && post < loads.size();
    }

    private boolean isRoad(int road) {
        return road >= 0 && road < roads.size();
    }

    int road(int a, int b, int weight) {
        if (!isPost(a) || !isPost(b) || a == b || weight < -50 || weight > 50) {
            return BAD;
        }
        for (Road road : roads) {
            if (road.at(a) && road.at(b)) {
                return STATE;
            }
        }
        if (roads.size() == 12) {
            return FULL;
        }
        roads.add(new Road(a, b, weight));
        odds.add(4);
        return roads.size() - 1;
    }

    int odds(int road, int e) {
        if (!isRoad(road) || e < 0 || e > 8) {
            return BAD;
        }
        return odds.set(road, e);
    }

    int roadOf(int road, int what) {
        if (!isRoad(road) || what < 0 || what > 3) {
            return BAD;
        }
        Road r = roads.get(road);
        return new int[] {Math.min(r.a, r.b), Math.max(r.a, r.b), r.weight, odds.get(road)}[what];
    }

    // ---- families made

    private int make(int kind, Collection<Integer> ways) {
        if (made.size() == 30) {
            return FULL;
        }
        made.add(new Kept(kind, new TreeSet<>(ways)));
        return made.size() - 1;
    }

    private boolean isFamily(int f) {
        return f >= 0 && f < made.size();
    }

    private Set<Integer> ways(int f) {
        return made.get(f).ways;
    }

    private interface Test {
        boolean of(int mask);
    }

    private List<Integer> setsOfRoads(Test test) {
        List<Integer> sets = new ArrayList<>();
        for (int mask = 0; mask < 1 << roads.size(); mask++) {
            if (test.of(mask)) {
                sets.add(mask);
            }
        }
        return sets;
    }

    private static List<Integer> chosen(Collection<Integer> ways, Test test) {
        List<Integer> some = new ArrayList<>();
        for (int way : ways) {
            if (test.of(way)) {
                some.add(way);
            }
        }
        return some;
    }

    private boolean isOfRoads(int mask) {
        return (mask & ~((1 << roads.size()) - 1)) == 0;
    }

    int tell(int mask) {
        if (mask == -1) {
            return make(0, List.of());
        }
        return isOfRoads(mask) ? make(0, List.of(mask)) : BAD;
    }

    int all(int mask) {
        return isOfRoads(mask) ? make(0, setsOfRoads(m -> (m & ~mask) == 0)) : BAD;
    }

    private int at(int mask, int post) {
        int n = 0;
        for (int r = 0; r < roads.size(); r++) {
            if ((mask >> r & 1) != 0 && roads.get(r).at(post)) {
                n++;
            }
        }
        return n;
    }

    private List<Integer> postsOf(int mask) {
        List<Integer> posts = new ArrayList<>();
        for (int p = 0; p < loads.size(); p++) {
            if (at(mask, p) > 0) {
                posts.add(p);
            }
        }
        return posts;
    }

    private Set<Integer> heap(int mask, int post) {
        Set<Integer> heap = new TreeSet<>(List.of(post));
        boolean more = true;
        while (more) {
            more = false;
            for (int r = 0; r < roads.size(); r++) {
                Road road = roads.get(r);
                if ((mask >> r & 1) != 0 && heap.contains(road.a) != heap.contains(road.b)) {
                    heap.add(road.a);
                    heap.add(road.b);
                    more = true;
                }
            }
        }
        return heap;
    }

    private Set<Set<Integer>> heaps(int mask) {
        Set<Set<Integer>> heaps = new HashSet<>();
        for (int p = 0; p < loads.size(); p++) {
            heaps.add(heap(mask, p));
        }
        return heaps;
    }

    /** Goes on along the one ROAD that is left at a POST till none is left. */
    private boolean isPath(int mask, int a, int b) {
        int left = mask;
        int post = a;
        Set<Integer> seen = new HashSet<>(List.of(a));
        while (left != 0) {
            if (at(left, post) != 1) {
                return false;
            }
            for (int r = 0; r < roads.size(); r++) {
                if ((left >> r & 1) != 0 && roads.get(r).at(post)) {
                    left &= ~(1 << r);
                    post = roads.get(r).other(post);
                    break;
                }
            }
            if (!seen.add(post)) {
                return false;
            }
        }
        return post == b;
    }

    int paths(int a, int b, boolean through) {
        if (!isPost(a) || !isPost(b) || a == b) {
            return BAD;
        }
        return make(1, setsOfRoads(m -> isPath(m, a, b) && (!through || postsOf(m).size() == loads.size())));
    }

    private boolean isRound(int mask) {
        List<Integer> posts = postsOf(mask);
        for (int post : posts) {
            if (at(mask, post) != 2) {
                return false;
            }
        }
        return Integer.bitCount(mask) >= 3 && heap(mask, posts.get(0)).size() == posts.size();
    }

    int rounds(boolean through) {
        return make(2, setsOfRoads(m -> isRound(m) && (!through || postsOf(m).size() == loads.size())));
    }

    /** Takes away ROADS that have a POST alone: what is left has a RING. */
    private boolean hasRing(int mask) {
        int left = mask;
        for (int times = 0; times < 12; times++) {
            for (int r = 0; r < roads.size(); r++) {
                if ((left >> r & 1) != 0 && (at(left, roads.get(r).a) == 1 || at(left, roads.get(r).b) == 1)) {
                    left &= ~(1 << r);
                }
            }
        }
        return left != 0;
    }

    int trees(int heaps) {
        if (heaps < 1 || heaps > loads.size()) {
            return BAD;
        }
        return make(3, setsOfRoads(m -> !hasRing(m) && heaps(m).size() == heaps));
    }

    int pairs(boolean all) {
        return make(4, setsOfRoads(m -> {
            for (int p = 0; p < loads.size(); p++) {
                if (at(m, p) > 1 || all && at(m, p) < 1) {
                    return false;
                }
            }
            return true;
        }));
    }

    private boolean isParting(int mask, int low, int high) {
        for (Set<Integer> heap : heaps(mask)) {
            int load = 0;
            for (int post : heap) {
                load += loads.get(post);
            }
            if (load < low || load > high) {
                return false;
            }
            for (int r = 0; r < roads.size(); r++) {
                boolean within = heap.contains(roads.get(r).a) && heap.contains(roads.get(r).b);
                if (within && (mask >> r & 1) == 0) {
                    return false;
                }
            }
        }
        return true;
    }

    int parts(int heaps, int low, int high) {
        if (heaps < 1 || heaps > loads.size()) {
            return BAD;
        }
        return make(5, setsOfRoads(m -> heaps(m).size() == heaps && isParting(m, low, high)));
    }

    int degrees(int f, int post, int low, int high) {
        if (!isFamily(f) || !isPost(post)) {
            return BAD;
        }
        return make(0, chosen(ways(f), m -> at(m, post) >= low && at(m, post) <= high));
    }

    private static Set<Integer> over(Set<Integer> f, Set<Integer> g) {
        Set<Integer> over = new TreeSet<>();
        for (int set = 0; set < 4096; set++) {
            boolean fits = true;
            for (int way : g) {
                fits = fits && (set & way) == 0 && f.contains(set | way);
            }
            if (fits) {
                over.add(set);
            }
        }
        return over;
    }

    private static Set<Integer> unions(Set<Integer> f, Set<Integer> g) {
        boolean[] is = new boolean[4096];
        for (int a : f) {
            for (int b : g) {
                is[a | b] = true;
            }
        }
        Set<Integer> unions = new TreeSet<>();
        for (int set = 0; set < 4096; set++) {
            if (is[set]) {
                unions.add(set);
            }
        }
        return unions;
    }

    private static boolean holdsSome(int set, Collection<Integer> ways) {
        for (int way : ways) {
            if ((way & ~set) == 0) {
                return true;
            }
        }
        return false;
    }

    private static boolean isHeldBySome(int set, Collection<Integer> ways) {
        for (int way : ways) {
            if ((set & ~way) == 0) {
                return true;
            }
        }
        return false;
    }

    int join(int how, int f, int g) {
        if (how < 0 || how > 7 || !isFamily(f) || !isFamily(g)) {
            return BAD;
        }
        Set<Integer> a = ways(f);
        Set<Integer> b = ways(g);
        if ((how == 4 || how == 5) && b.isEmpty()) {
            return STATE;
        }
        Set<Integer> out = new TreeSet<>(a);
        switch (how) {
            case 0 -> out.retainAll(b);
            case 1 -> out.addAll(b);
            case 2 -> out.removeAll(b);
            case 3 -> out = unions(a, b);
            case 4 -> out = over(a, b);
            case 5 -> out.removeAll(unions(over(a, b), b));
            case 6 -> out.removeIf(way -> !holdsSome(way, b));
            default -> out.removeIf(way -> !isHeldBySome(way, b));
        }
        return make(0, out);
    }

    private static List<Integer> least(Collection<Integer> ways) {
        List<Integer> least = new ArrayList<>();
        for (int way : ways) {
            boolean holds = false;
            for (int other : ways) {
                holds = holds || other != way && (other & ~way) == 0;
            }
            if (!holds) {
                least.add(way);
            }
        }
        return least;
    }

    private static List<Integer> greatest(Collection<Integer> ways) {
        List<Integer> greatest = new ArrayList<>();
        for (int way : ways) {
            boolean held = false;
            for (int other : ways) {
                held = held || other != way && (way & ~other) == 0;
            }
            if (!held) {
                greatest.add(way);
            }
        }
        return greatest;
    }

    int thin(int how, int f) {
        if (how < 0 || how > 2 || !isFamily(f)) {
            return BAD;
        }
        if (how == 0) {
            return make(0, least(ways(f)));
        }
        if (how == 1) {
            return make(0, greatest(ways(f)));
        }
        for (int way : ways(f)) {
            if (!isOfRoads(way)) {
                return STATE;
            }
        }
        return make(0, least(setsOfRoads(m -> {
            for (int way : ways(f)) {
                if ((way & m) == 0) {
                    return false;
                }
            }
            return true;
        })));
    }

    int by(int how, int f, int road) {
        if (how < 0 || how > 2 || !isFamily(f) || road < 0 || road > 11) {
            return BAD;
        }
        List<Integer> out = new ArrayList<>();
        for (int way : ways(f)) {
            boolean with = (way >> road & 1) != 0;
            if (how == 2) {
                out.add(way ^ 1 << road);
            } else if (with == (how == 1)) {
                out.add(way);
            }
        }
        return make(0, out);
    }

    private int sum(int way) {
        int sum = 0;
        for (int r = 0; r < roads.size(); r++) {
            sum += (way >> r & 1) * roads.get(r).weight;
        }
        return sum;
    }

    int within(int f, int low, int high) {
        if (!isFamily(f)) {
            return BAD;
        }
        return make(0, chosen(ways(f), way -> sum(way) >= low && sum(way) <= high));
    }

    int drop() {
        if (made.isEmpty()) {
            return BAD;
        }
        made.remove(made.size() - 1);
        return made.size();
    }

    int close() {
        if (roads.isEmpty()) {
            return BAD;
        }
        odds.remove(odds.size() - 1);
        roads.remove(roads.size() - 1);
        return roads.size();
    }

    // ---- asked

    int count(int f) {
        return isFamily(f) ? ways(f).size() : BAD;
    }

    /** The KNOTS of a BOOK in the order of THE ROWS. */
    private static void knots(Set<Integer> ways, Map<Set<Integer>, Integer> numbers, List<Knot> knots) {
        if (ways.isEmpty() || ways.equals(Set.of(0)) || numbers.containsKey(ways)) {
            return;
        }
        int road = 12;
        for (int way : ways) {
            road = Math.min(road, way == 0 ? 12 : Integer.numberOfTrailingZeros(way));
        }
        Set<Integer> no = new HashSet<>();
        Set<Integer> yes = new HashSet<>();
        for (int way : ways) {
            if ((way >> road & 1) != 0) {
                yes.add(way ^ 1 << road);
            } else {
                no.add(way);
            }
        }
        knots(no, numbers, knots);
        knots(yes, numbers, knots);
        numbers.put(ways, knots.size());
        knots.add(new Knot(road, no, yes));
    }

    private static int lead(Set<Integer> ways, Map<Set<Integer>, Integer> numbers) {
        return ways.isEmpty() ? -1 : ways.equals(Set.of(0)) ? -2 : numbers.get(ways);
    }

    private static List<int[]> rowsOf(Set<Integer> ways) {
        Map<Set<Integer>, Integer> numbers = new HashMap<>();
        List<Knot> knots = new ArrayList<>();
        knots(new HashSet<>(ways), numbers, knots);
        List<int[]> rows = new ArrayList<>();
        for (Knot knot : knots) {
            int count = knot.no.size() + knot.yes.size();
            rows.add(new int[] {knot.road, lead(knot.no, numbers), lead(knot.yes, numbers), count});
        }
        return rows;
    }

    int told(int f, int what) {
        if (!isFamily(f) || what < 0 || what > 2) {
            return BAD;
        }
        int bits = 0;
        for (int way : ways(f)) {
            bits |= way;
        }
        return what == 0 ? made.get(f).kind : what == 1 ? rowsOf(ways(f)).size() : bits;
    }

    long total(int f) {
        long total = 0;
        if (isFamily(f)) {
            for (int way : ways(f)) {
                total += sum(way);
            }
        }
        return total;
    }

    int often(int f, int road) {
        if (!isFamily(f) || road < 0 || road > 11) {
            return BAD;
        }
        return chosen(ways(f), way -> (way >> road & 1) != 0).size();
    }

    int has(int f, int mask) {
        if (!isFamily(f) || mask < 0) {
            return BAD;
        }
        return ways(f).contains(mask) ? 1 : 0;
    }

    private static int order(int a, int b) {
        if (a == b) {
            return 0;
        }
        int least = Integer.numberOfTrailingZeros(a ^ b);
        return (a >> least & 1) == 0 ? -1 : 1;
    }

    private List<Integer> inOrder(int f) {
        List<Integer> ways = new ArrayList<>(ways(f));
        ways.sort(PlainBook::order);
        return ways;
    }

    private static int nth(List<Integer> ways, int i) {
        return i >= 0 && i < ways.size() ? ways.get(i) : NONE;
    }

    int way(int f, int i) {
        return isFamily(f) ? nth(inOrder(f), i) : BAD;
    }

    int rank(int f, int mask) {
        if (!isFamily(f) || mask < 0 || mask > 4095) {
            return BAD;
        }
        return chosen(ways(f), way -> order(way, mask) < 0).size();
    }

    int best(int f, int how, int i) {
        if (!isFamily(f) || how < 0 || how > 1) {
            return BAD;
        }
        List<Integer> ways = inOrder(f);
        ways.sort((a, b) -> how == 0 ? Integer.compare(sum(b), sum(a)) : Integer.compare(sum(a), sum(b)));
        return nth(ways, i);
    }

    int draw(int f, int seed) {
        if (!isFamily(f)) {
            return BAD;
        }
        List<Integer> ways = inOrder(f);
        if (ways.isEmpty()) {
            return NONE;
        }
        int b = 0;
        while (Math.pow(2, b) < ways.size()) {
            b++;
        }
        int s = seed;
        int v = 0;
        int times = 0;
        do {
            s = s * 1103515245 + 12345;
            v = b == 0 ? 0 : s >>> (32 - b);
            times++;
        } while (v >= ways.size() && times < 1000);
        return ways.get(v % ways.size());
    }

    int same(int f, int g) {
        if (!isFamily(f) || !isFamily(g)) {
            return BAD;
        }
        return ways(f).equals(ways(g)) ? 1 : 0;
    }

    private long chance(int f, List<Integer> eighths) {
        List<Integer> least = least(ways(f));
        long chance = 0;
        for (int there = 0; there < 1 << roads.size(); there++) {
            if (holdsSome(there, least)) {
                long one = 1;
                for (int r = 0; r < 12; r++) {
                    int e = r < roads.size() ? eighths.get(r) : 0;
                    one *= (there >> r & 1) != 0 ? e : 8 - e;
                }
                chance += one;
            }
        }
        return chance;
    }

    long chance(int f) {
        return isFamily(f) ? chance(f, odds) : -1;
    }

    long matters(int f, int road) {
        if (!isFamily(f) || !isRoad(road)) {
            return -1;
        }
        List<Integer> sure = new ArrayList<>(odds);
        sure.set(road, 8);
        List<Integer> not = new ArrayList<>(odds);
        not.set(road, 0);
        return chance(f, sure) - chance(f, not);
    }

    int turned(int f, int k) {
        if (!isFamily(f) || k < 1 || k > 12) {
            return BAD;
        }
        Set<Integer> turned = new HashSet<>();
        for (int way : ways(f)) {
            int other = 0;
            for (int r = 0; r < 12; r++) {
                if ((way >> r & 1) != 0) {
                    other |= 1 << ((r + 1) * k % 13 - 1);
                }
            }
            turned.add(other);
        }
        return rowsOf(turned).size();
    }

    // ---- rows

    int write(int f) {
        if (!isFamily(f)) {
            return BAD;
        }
        rows = rowsOf(ways(f));
        return rows.size();
    }

    int row(int i, int what) {
        return i >= 0 && i < rows.size() && what >= 0 && what < 4 ? rows.get(i)[what] : BAD;
    }

    int forge(int i, int what, int v) {
        if (row(i, what) == BAD && (i < 0 || i >= rows.size() || what < 0 || what > 3)) {
            return BAD;
        }
        rows.get(i)[what] = v;
        return 1;
    }

    private int wrong(int i) {
        int[] row = rows.get(i);
        int count = 0;
        boolean notAbove = false;
        if (row[0] < 0 || row[0] > 11) {
            return 1;
        }
        for (int side = 1; side < 3; side++) {
            if (row[side] < -2 || row[side] > i - 1) {
                return 1;
            }
            if (row[side] >= 0) {
                notAbove = notAbove || rows.get(row[side])[0] <= row[0];
                count += rows.get(row[side])[3];
            } else if (row[side] == -2) {
                count++;
            }
        }
        if (notAbove) {
            return 2;
        }
        if (row[2] == -1) {
            return 3;
        }
        for (int ahead = 0; ahead < i; ahead++) {
            if (Arrays.equals(Arrays.copyOf(rows.get(ahead), 3), Arrays.copyOf(row, 3))) {
                return 4;
            }
        }
        return count == row[3] ? 0 : 5;
    }

    int check(int f) {
        if (!isFamily(f)) {
            return BAD;
        }
        for (int i = 0; i < rows.size(); i++) {
            if (wrong(i) != 0) {
                return 8 * i + wrong(i);
            }
        }
        List<int[]> due = rowsOf(ways(f));
        return Arrays.deepEquals(due.toArray(), rows.toArray()) ? -1 : -3;
    }

    // ---- the host

    private static boolean isNumber(int n) {
        return n >= 0 && n < 6;
    }

    int sheet(int sheet, int sort, int n) {
        if (!isNumber(sheet) || sort < -1 || sort > 2) {
            return BAD;
        }
        if (sort == -1) {
            sheets[sheet] = null;
            return 1;
        }
        if (n > 40) {
            return BAD;
        }
        try {
            sheets[sheet] = sort == 0 ? new byte[n] : sort == 1 ? new short[n] : new int[n];
            return 1;
        } catch (NegativeArraySizeException refused) {
            return -14;
        }
    }

    int cell(int sheet, int i, int v) {
        if (!isNumber(sheet)) {
            return BAD;
        }
        Object row = sheets[sheet];
        try {
            if (row instanceof byte[] bytes) {
                bytes[i] = (byte) v;
            } else if (row instanceof short[] shorts) {
                shorts[i] = (short) v;
            } else {
                ((int[]) row)[i] = v;
            }
            return 1;
        } catch (NullPointerException refused) {
            return -11;
        } catch (ArrayIndexOutOfBoundsException refused) {
            return -12;
        }
    }

    private static int item(Object row, int sort, int i) {
        return switch (sort) {
            case 0 -> ((byte[]) row)[i];
            case 1 -> ((short[]) row)[i];
            default -> ((int[]) row)[i];
        };
    }

    int lay(int sheet, int sort, int i) {
        if (!isNumber(sheet) || sort < 0 || sort > 2) {
            return BAD;
        }
        try {
            int a = item(sheets[sheet], sort, i);
            int b = item(sheets[sheet], sort, i + 1);
            return road(a, b, item(sheets[sheet], sort, i + 2));
        } catch (ClassCastException refused) {
            return -13;
        } catch (NullPointerException refused) {
            return -11;
        } catch (ArrayIndexOutOfBoundsException refused) {
            return -12;
        }
    }

    private Family acting(Kept kept) {
        int n = kept.ways.size();
        return switch (kept.kind) {
            case 0 -> new Family(n, trace);
            case 1 -> new Paths(n, trace);
            case 2 -> new Rounds(n, trace);
            case 3 -> new Trees(n, trace);
            case 4 -> new Pairs(n, trace);
            default -> new Parts(n, trace);
        };
    }

    int shelf(int shelf, int what, int n) {
        if (!isNumber(shelf) || what < 0 || what > 2) {
            return BAD;
        }
        if (what == 0 && !isFamily(n) || what == 1 && !isNumber(n)) {
            return BAD;
        }
        shelves[shelf] = what == 0 ? acting(made.get(n)) : what == 1 ? sheets[n] : null;
        return 1;
    }

    int taken(int shelf, int as) {
        if (!isNumber(shelf) || as < 0 || as > 8) {
            return BAD;
        }
        Object held = shelves[shelf];
        try {
            return switch (as) {
                case 0 -> ((Family) held).n;
                case 1 -> ((Paths) held).n;
                case 2 -> ((Rounds) held).n;
                case 3 -> ((Trees) held).n;
                case 4 -> ((Pairs) held).n;
                case 5 -> ((Parts) held).n;
                case 6 -> ((byte[]) held).length;
                case 7 -> ((short[]) held).length;
                default -> ((int[]) held).length;
            };
        } catch (ClassCastException refused) {
            return -13;
        } catch (NullPointerException refused) {
            return -11;
        }
    }

    int act(int f, int act, int x) {
        trace = new ArrayList<>();
        if (!isFamily(f) || act < 0 || act > 2) {
            return 0;
        }
        Family acting = acting(made.get(f));
        return act == 0 ? acting.fits(x) : act == 1 ? acting.joins(x) : acting.weighs(x);
    }

    int trace(int i) {
        return i >= 0 && i < trace.size() && i < 40 ? trace.get(i) : NONE;
    }

    int there(int what) {
        return switch (what) {
            case 0 -> loads.size();
            case 1 -> roads.size();
            case 2 -> made.size();
            case 3 -> rows.size();
            case 4 -> trace.size();
            default -> BAD;
        };
    }
}
