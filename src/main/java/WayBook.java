import java.util.Arrays;

/** All ways at once: families of WAYS through a small net, kept as one book of yes and no. */
public final class WayBook {
    public static final int NONE = -1, BAD = -2, STATE = -3, FULL = -4;

    private static final int NOTHING_THERE = -11, OUTSIDE = -12, OTHER_KIND = -13, BELOW_ZERO = -14;

    private static final int FAMILY = 0, PATHS = 1, ROUNDS = 2, TREES = 3, PAIRS = 4, PARTS = 5;
    private static final int[] KIND_ABOVE = {-1, 0, 1, 0, 0, 3};

    private static final int MOST_POSTS = 8;
    private static final int MOST_ROADS = 12;
    private static final int MOST_FAMILIES = 30;
    private static final int MOST_LOAD = 99;
    private static final int MOST_WEIGHT = 50;
    private static final int EIGHT = 8;

    /** How many sets of twelve ROADS there are. */
    private static final int PLACES = 4096;
    private static final int WORDS = 64;
    /** Places that differ just in the lowest levels share a word of 64 bits. */
    private static final int WORD_LEVELS = 6;

    private final Net net;
    private final Ways[] made;
    private int families;
    private final Ways spare;
    private final Ways other;
    private final int[] places;
    private final Sums sums;
    private final Tally tally;
    private final Rows written;
    private final Rows trial;
    private final Host host;
    private final Acts acts;

    public WayBook() {
        net = new Net();
        made = new Ways[MOST_FAMILIES];
        for (int f = 0; f < MOST_FAMILIES; f++) {
            made[f] = new Ways();
        }
        spare = new Ways();
        other = new Ways();
        places = new int[PLACES];
        sums = new Sums();
        tally = new Tally();
        written = new Rows();
        trial = new Rows();
        host = new Host();
        acts = new Acts();
    }

    // ---- the net

    public int post(int load) {
        if (load < 0 || load > MOST_LOAD) {
            return BAD;
        }
        return net.addPost(load);
    }

    public int road(int a, int b, int weight) {
        if (!net.isPost(a) || !net.isPost(b) || a == b || weight < -MOST_WEIGHT || weight > MOST_WEIGHT) {
            return BAD;
        }
        if (net.areJoined(a, b)) {
            return STATE;
        }
        return net.addRoad(a, b, weight);
    }

    public int odds(int road, int e) {
        if (!net.isRoad(road) || e < 0 || e > EIGHT) {
            return BAD;
        }
        int before = net.eighths[road];
        net.eighths[road] = e;
        return before;
    }

    public int roadOf(int road, int what) {
        if (!net.isRoad(road)) {
            return BAD;
        }
        switch (what) {
            case 0: return net.lesser[road];
            case 1: return net.greater[road];
            case 2: return net.weights[road];
            case 3: return net.eighths[road];
            default: return BAD;
        }
    }

    // ---- families made (each answers its number)

    public int tell(int mask) {
        if (mask != -1 && !net.hasRoads(mask)) {
            return BAD;
        }
        Ways ways = blank(FAMILY);
        if (ways == null) {
            return FULL;
        }
        if (mask != -1) {
            ways.put(mirrored(mask));
        }
        return keep();
    }

    public int all(int mask) {
        if (!net.hasRoads(mask)) {
            return BAD;
        }
        Ways ways = blank(FAMILY);
        if (ways == null) {
            return FULL;
        }
        ways.put(mirrored(mask));
        ways.spreadDown();
        return keep();
    }

    public int paths(int a, int b, boolean through) {
        if (!net.isPost(a) || !net.isPost(b) || a == b) {
            return BAD;
        }
        Ways ways = blank(PATHS);
        if (ways == null) {
            return FULL;
        }
        new Search(net, ways).findPaths(a, b, through);
        return keep();
    }

    public int rounds(boolean through) {
        Ways ways = blank(ROUNDS);
        if (ways == null) {
            return FULL;
        }
        new Search(net, ways).findRounds(through);
        return keep();
    }

    public int trees(int heaps) {
        if (heaps < 1 || heaps > net.posts) {
            return BAD;
        }
        Ways ways = blank(TREES);
        if (ways == null) {
            return FULL;
        }
        new Search(net, ways).findTrees(heaps);
        return keep();
    }

    public int pairs(boolean all) {
        Ways ways = blank(PAIRS);
        if (ways == null) {
            return FULL;
        }
        new Search(net, ways).findPairs(all);
        return keep();
    }

    public int parts(int heaps, int low, int high) {
        if (heaps < 1 || heaps > net.posts) {
            return BAD;
        }
        Ways ways = blank(PARTS);
        if (ways == null) {
            return FULL;
        }
        new Search(net, ways).findParts(heaps, low, high);
        return keep();
    }

    public int degrees(int f, int post, int low, int high) {
        Ways ways = family(f);
        if (ways == null || !net.isPost(post)) {
            return BAD;
        }
        Ways kept = blank(FAMILY);
        if (kept == null) {
            return FULL;
        }
        int near = net.roadsAt(post);
        int size = ways.list(places);
        for (int n = 0; n < size && n < PLACES; n++) {
            int degree = Integer.bitCount(places[n] & near);
            if (degree >= low && degree <= high) {
                kept.put(places[n]);
            }
        }
        return keep();
    }

    public int join(int how, int f, int g) {
        Ways mine = family(f);
        Ways yours = family(g);
        if (how < 0 || how > 7 || mine == null || yours == null) {
            return BAD;
        }
        if ((how == 4 || how == 5) && yours.size() == 0) {
            return STATE;
        }
        Ways joined = blank(FAMILY);
        if (joined == null) {
            return FULL;
        }
        fillJoined(joined, how, mine, yours);
        return keep();
    }

    public int thin(int how, int f) {
        Ways ways = family(f);
        if (how < 0 || how > 2 || ways == null) {
            return BAD;
        }
        if (how == 2 && !net.hasRoads(mirrored(ways.used()))) {
            return STATE;
        }
        Ways kept = blank(FAMILY);
        if (kept == null) {
            return FULL;
        }
        if (how == 0) {
            kept.takeLeast(ways, spare);
        } else if (how == 1) {
            kept.takeGreatest(ways, spare);
        } else {
            other.takeHitting(ways, spare);
            kept.takeLeast(other, spare);
        }
        return keep();
    }

    public int by(int how, int f, int road) {
        Ways ways = family(f);
        if (how < 0 || how > 2 || ways == null || road < 0 || road >= MOST_ROADS) {
            return BAD;
        }
        Ways kept = blank(FAMILY);
        if (kept == null) {
            return FULL;
        }
        int level = MOST_ROADS - 1 - road;
        if (how == 2) {
            kept.raise(ways, level);
            kept.lower(ways, level);
        } else {
            kept.takeBy(ways, level, how == 1);
        }
        return keep();
    }

    public int within(int f, int low, int high) {
        Ways ways = family(f);
        if (ways == null) {
            return BAD;
        }
        Ways kept = blank(FAMILY);
        if (kept == null) {
            return FULL;
        }
        sums.learnWeights(net);
        int size = ways.list(places);
        for (int n = 0; n < size && n < PLACES; n++) {
            int sum = sums.of(places[n]);
            if (sum >= low && sum <= high) {
                kept.put(places[n]);
            }
        }
        return keep();
    }

    public int drop() {
        if (families <= 0) {
            return BAD;
        }
        families--;
        return families;
    }

    public int close() {
        return net.roads <= 0 ? BAD : net.loseRoad();
    }

    // ---- asked

    public int count(int f) {
        Ways ways = family(f);
        return ways == null ? BAD : ways.size();
    }

    public int told(int f, int what) {
        Ways ways = family(f);
        if (ways == null) {
            return BAD;
        }
        switch (what) {
            case 0: return ways.kind;
            case 1: return trial.list(ways);
            case 2: return mirrored(ways.used());
            default: return BAD;
        }
    }

    public long total(int f) {
        Ways ways = family(f);
        long sum = 0;
        if (ways != null) {
            for (int road = 0; road < MOST_ROADS; road++) {
                sum += (long) net.weightOf(road) * ways.sizeWith(MOST_ROADS - 1 - road);
            }
        }
        return sum;
    }

    public int often(int f, int road) {
        Ways ways = family(f);
        if (ways == null || road < 0 || road >= MOST_ROADS) {
            return BAD;
        }
        return ways.sizeWith(MOST_ROADS - 1 - road);
    }

    public int has(int f, int mask) {
        Ways ways = family(f);
        if (ways == null || mask < 0) {
            return BAD;
        }
        return mask < PLACES && ways.holds(mirrored(mask)) ? 1 : 0;
    }

    public int way(int f, int i) {
        Ways ways = family(f);
        return ways == null ? BAD : maskAt(ways.nth(i));
    }

    public int rank(int f, int mask) {
        Ways ways = family(f);
        if (ways == null || mask < 0 || mask >= PLACES) {
            return BAD;
        }
        return ways.sizeAhead(mirrored(mask));
    }

    public int best(int f, int how, int i) {
        Ways ways = family(f);
        if (ways == null || how < 0 || how > 1) {
            return BAD;
        }
        sums.learnWeights(net);
        return maskAt(sums.nthBest(places, ways.list(places), how == 0, i));
    }

    public int draw(int f, int seed) {
        Ways ways = family(f);
        if (ways == null) {
            return BAD;
        }
        int size = ways.size();
        return size == 0 ? NONE : maskAt(ways.nth(drawn(size, seed)));
    }

    public int same(int f, int g) {
        Ways mine = family(f);
        Ways yours = family(g);
        if (mine == null || yours == null) {
            return BAD;
        }
        return mine.isLike(yours) ? 1 : 0;
    }

    public long chance(int f) {
        Ways ways = family(f);
        return ways == null ? -1 : chanceIf(ways, NONE, 0);
    }

    public long matters(int f, int road) {
        Ways ways = family(f);
        if (ways == null || !net.isRoad(road)) {
            return -1;
        }
        return chanceIf(ways, road, EIGHT) - chanceIf(ways, road, 0);
    }

    public int turned(int f, int k) {
        Ways ways = family(f);
        if (ways == null || k < 1 || k > 12) {
            return BAD;
        }
        sums.learnTurn(k);
        spare.clear(FAMILY);
        int size = ways.list(places);
        for (int n = 0; n < size && n < PLACES; n++) {
            spare.put(sums.of(places[n]));
        }
        return trial.list(spare);
    }

    // ---- rows

    public int write(int f) {
        Ways ways = family(f);
        return ways == null ? BAD : written.list(ways);
    }

    public int row(int i, int what) {
        return written.isCell(i, what) ? written.cells[what][i] : BAD;
    }

    public int forge(int i, int what, int v) {
        if (!written.isCell(i, what)) {
            return BAD;
        }
        written.cells[what][i] = v;
        return 1;
    }

    public int check(int f) {
        Ways ways = family(f);
        if (ways == null) {
            return BAD;
        }
        int wrong = written.firstWrong(trial);
        if (wrong >= 0) {
            return wrong;
        }
        trial.list(ways);
        return written.isLike(trial) ? -1 : -3;
    }

    // ---- the host

    public int sheet(int sheet, int sort, int n) {
        return host.layOut(sheet, sort, n);
    }

    public int cell(int sheet, int i, int v) {
        return host.fill(sheet, i, v);
    }

    public int lay(int sheet, int sort, int i) {
        int refusal = host.refusalOfThree(sheet, sort, i);
        if (refusal != 0) {
            return refusal;
        }
        return road(host.item(sheet, i), host.item(sheet, i + 1), host.item(sheet, i + 2));
    }

    public int shelf(int shelf, int what, int n) {
        if (!host.isNumber(shelf)) {
            return BAD;
        }
        switch (what) {
            case 0:
                Ways ways = family(n);
                return ways == null ? BAD : host.hold(shelf, ways.kind, ways.size());
            case 1: return host.isNumber(n) ? host.holdSheet(shelf, n) : BAD;
            case 2: return host.hold(shelf, NONE, 0);
            default: return BAD;
        }
    }

    public int taken(int shelf, int as) {
        return host.heldFor(shelf, as);
    }

    public int act(int f, int act, int x) {
        acts.forget();
        Ways ways = family(f);
        if (ways == null || act < 0 || act > 2) {
            return 0;
        }
        return acts.begin(ways.kind, ways.size(), act, x);
    }

    public int trace(int i) {
        return acts.kept(i);
    }

    public int there(int what) {
        switch (what) {
            case 0: return net.posts;
            case 1: return net.roads;
            case 2: return families;
            case 3: return written.size;
            case 4: return acts.ran;
            default: return BAD;
        }
    }

    // ---- within

    private Ways family(int f) {
        return f >= 0 && f < families && f < MOST_FAMILIES ? made[f] : null;
    }

    /** The FAMILY that will come next, without WAYS (it counts from keep() on); null: there can be no more. */
    private Ways blank(int kind) {
        Ways next = families >= 0 && families < MOST_FAMILIES ? made[families] : null;
        if (next != null) {
            next.clear(kind);
        }
        return next;
    }

    private int keep() {
        families++;
        return families - 1;
    }

    private void fillJoined(Ways out, int how, Ways f, Ways g) {
        switch (how) {
            case 0:
                out.takeBoth(f, g);
                break;
            case 1:
                out.takeEither(f, g);
                break;
            case 2:
                out.takeFirstAlone(f, g);
                break;
            case 3:
                tally.unite(out, f, g);
                break;
            case 4:
                out.takeOver(f, g, places);
                break;
            case 5:
                spare.takeOver(f, g, places);
                tally.unite(other, spare, g);
                out.takeFirstAlone(f, other);
                break;
            case 6:
                spare.copy(g);
                spare.spreadUp();
                out.takeBoth(f, spare);
                break;
            default:
                spare.copy(g);
                spare.spreadDown();
                out.takeBoth(f, spare);
                break;
        }
    }

    /** THE CHANCE, one ROAD's odds being e instead of its own (NONE: no ROAD's). */
    private long chanceIf(Ways ways, int road, int e) {
        spare.copy(ways);
        spare.spreadUp();
        return tally.chanceOf(spare, net, road, e);
    }

    private static int drawn(int size, int seed) {
        int bits = 0;
        while (bits < MOST_ROADS && (1 << bits) < size) {
            bits++;
        }
        int s = seed;
        int v = 0;
        for (int times = 0; times < 1000; times++) {
            s = s * 1103515245 + 12345;
            v = bits == 0 ? 0 : s >>> (32 - bits);
            if (v < size) {
                return v;
            }
        }
        return size > 0 ? v % size : 0;
    }

    /** The twelve bits of a MASK read backwards: its place in THE ORDER of all sets of ROADS, and back. */
    private static int mirrored(int mask) {
        int place = 0;
        for (int road = 0; road < MOST_ROADS; road++) {
            place = (place << 1) | ((mask >> road) & 1);
        }
        return place;
    }

    private static int maskAt(int place) {
        return place < 0 ? NONE : mirrored(place);
    }

    /** THE NET as it is now. */
    private static final class Net {
        int posts;
        int roads;
        final int[] loads = new int[MOST_POSTS];
        final int[] lesser = new int[MOST_ROADS];
        final int[] greater = new int[MOST_ROADS];
        final int[] weights = new int[MOST_ROADS];
        final int[] eighths = new int[MOST_ROADS];

        boolean isPost(int post) {
            return post >= 0 && post < posts && post < MOST_POSTS;
        }

        boolean isRoad(int road) {
            return road >= 0 && road < roads && road < MOST_ROADS;
        }

        /** Whether a MASK has no others than ROADS. */
        boolean hasRoads(int mask) {
            return mask >= 0 && mask < (1 << roads);
        }

        int addPost(int load) {
            if (posts < 0 || posts >= MOST_POSTS) {
                return FULL;
            }
            loads[posts] = load;
            posts++;
            return posts - 1;
        }

        boolean areJoined(int a, int b) {
            for (int road = 0; road < roads && road < MOST_ROADS; road++) {
                if (lesser[road] == Math.min(a, b) && greater[road] == Math.max(a, b)) {
                    return true;
                }
            }
            return false;
        }

        int addRoad(int a, int b, int weight) {
            if (roads < 0 || roads >= MOST_ROADS) {
                return FULL;
            }
            lesser[roads] = Math.min(a, b);
            greater[roads] = Math.max(a, b);
            weights[roads] = weight;
            eighths[roads] = 4;
            roads++;
            return roads - 1;
        }

        int loseRoad() {
            roads--;
            return roads;
        }

        int weightOf(int road) {
            return isRoad(road) ? weights[road] : 0;
        }

        int eighthsOf(int road) {
            return isRoad(road) ? eighths[road] : 0;
        }

        /** Where a ROAD leads from a POST; NONE: it has it not. */
        int beyond(int road, int post) {
            if (!isRoad(road)) {
                return NONE;
            }
            if (lesser[road] == post) {
                return greater[road];
            }
            return greater[road] == post ? lesser[road] : NONE;
        }

        /** The ROADS that a POST has, as a place. */
        int roadsAt(int post) {
            int near = 0;
            for (int road = 0; road < roads; road++) {
                if (beyond(road, post) != NONE) {
                    near |= placeOf(road);
                }
            }
            return near;
        }

        /** The place of the WAY with just this ROAD. */
        static int placeOf(int road) {
            return (PLACES / 2) >> road;
        }
    }

    /**
     * A set of WAYS. Each bit is one set of ROADS, at its place in THE ORDER; of a place's bits,
     * bit 11 - r is ROAD r (its level).
     */
    private static final class Ways {
        /** Per level of a word: the places within it that have its bit. */
        private static final long[] WITH = {
            0xAAAAAAAAAAAAAAAAL, 0xCCCCCCCCCCCCCCCCL, 0xF0F0F0F0F0F0F0F0L,
            0xFF00FF00FF00FF00L, 0xFFFF0000FFFF0000L, 0xFFFFFFFF00000000L
        };

        int kind;
        final long[] words = new long[WORDS];

        void clear(int newKind) {
            kind = newKind;
            Arrays.fill(words, 0L);
        }

        void put(int place) {
            if (place >= 0 && place < PLACES) {
                words[place >> 6] |= 1L << (place & 63);
            }
        }

        void take(int place) {
            if (place >= 0 && place < PLACES) {
                words[place >> 6] &= ~(1L << (place & 63));
            }
        }

        boolean holds(int place) {
            return place >= 0 && place < PLACES && ((words[place >> 6] >>> (place & 63)) & 1L) != 0;
        }

        /** Lists the places of all WAYS, in THE ORDER: how many. */
        int list(int[] places) {
            int size = 0;
            for (int w = 0; w < WORDS; w++) {
                long rest = words[w];
                for (int b = 0; b < 64 && rest != 0; b++) {
                    if ((rest & 1L) != 0 && size < places.length) {
                        places[size] = 64 * w + b;
                        size++;
                    }
                    rest >>>= 1;
                }
            }
            return size;
        }

        int size() {
            int size = 0;
            for (int w = 0; w < WORDS; w++) {
                size += Long.bitCount(words[w]);
            }
            return size;
        }

        int sizeWith(int level) {
            int size = 0;
            for (int w = 0; w < WORDS; w++) {
                size += Long.bitCount(words[w] & having(w, level));
            }
            return size;
        }

        int sizeAhead(int place) {
            int size = 0;
            for (int w = 0; w < WORDS && w <= place >> 6; w++) {
                long ahead = w < place >> 6 ? -1L : (1L << (place & 63)) - 1L;
                size += Long.bitCount(words[w] & ahead);
            }
            return size;
        }

        /** The place of WAY number i; NONE: there is none such. */
        int nth(int i) {
            int left = i;
            for (int w = 0; w < WORDS && left >= 0; w++) {
                int size = Long.bitCount(words[w]);
                if (left < size) {
                    return 64 * w + nthBit(words[w], left);
                }
                left -= size;
            }
            return NONE;
        }

        private static int nthBit(long word, int n) {
            int left = n;
            for (int b = 0; b < 64; b++) {
                if (((word >>> b) & 1L) != 0) {
                    if (left == 0) {
                        return b;
                    }
                    left--;
                }
            }
            return 0;
        }

        /** All ROADS that some WAY has, as a place. */
        int used() {
            int used = 0;
            for (int level = 0; level < MOST_ROADS; level++) {
                if (sizeWith(level) > 0) {
                    used |= 1 << level;
                }
            }
            return used;
        }

        /** How many levels are below the lowest one of those that are used. */
        static int levelsBelow(int used) {
            int below = 0;
            while (below < MOST_ROADS && (used & (1 << below)) == 0) {
                below++;
            }
            return below;
        }

        boolean isLike(Ways g) {
            for (int w = 0; w < WORDS; w++) {
                if (words[w] != g.words[w]) {
                    return false;
                }
            }
            return true;
        }

        /** Those places of a word that have a level's bit. */
        private static long having(int word, int level) {
            if (level >= 0 && level < WITH.length) {
                return WITH[level];
            }
            return ((word >> (level - WORD_LEVELS)) & 1) != 0 ? -1L : 0L;
        }

        void copy(Ways f) {
            System.arraycopy(f.words, 0, words, 0, WORDS);
        }

        void takeBoth(Ways f, Ways g) {
            for (int w = 0; w < WORDS; w++) {
                words[w] = f.words[w] & g.words[w];
            }
        }

        void takeEither(Ways f, Ways g) {
            for (int w = 0; w < WORDS; w++) {
                words[w] = f.words[w] | g.words[w];
            }
        }

        void takeFirstAlone(Ways f, Ways g) {
            for (int w = 0; w < WORDS; w++) {
                words[w] = f.words[w] & ~g.words[w];
            }
        }

        /** The WAYS of f that have a level's ROAD, or those that have it not. */
        void takeBy(Ways f, int level, boolean with) {
            for (int w = 0; w < WORDS; w++) {
                long having = having(w, level);
                words[w] = f.words[w] & (with ? having : ~having);
            }
        }

        /** Adds the WAYS of f that lack a level's ROAD, with it. */
        void raise(Ways f, int level) {
            for (int w = 0; w < WORDS; w++) {
                int without = w & ~(1 << (level - WORD_LEVELS));
                if (level < WORD_LEVELS) {
                    words[w] |= (f.words[w] & ~having(w, level)) << (1 << level);
                } else if (without >= 0 && without < w) {
                    words[w] |= f.words[without];
                }
            }
        }

        /** Adds the WAYS of f that have a level's ROAD, without it. */
        void lower(Ways f, int level) {
            for (int w = 0; w < WORDS; w++) {
                int with = w | (1 << (level - WORD_LEVELS));
                if (level < WORD_LEVELS) {
                    words[w] |= (f.words[w] & having(w, level)) >>> (1 << level);
                } else if (with > w && with < WORDS) {
                    words[w] |= f.words[with];
                }
            }
        }

        /** Adds all sets of ROADS that hold a WAY. */
        void spreadUp() {
            for (int level = 0; level < MOST_ROADS; level++) {
                raise(this, level);
            }
        }

        /** Adds all sets of ROADS that a WAY holds. */
        void spreadDown() {
            for (int level = 0; level < MOST_ROADS; level++) {
                lower(this, level);
            }
        }

        /** The WAYS of f that hold no other WAY of f. */
        void takeLeast(Ways f, Ways room) {
            room.copy(f);
            room.spreadUp();
            Arrays.fill(words, 0L);
            for (int level = 0; level < MOST_ROADS; level++) {
                raise(room, level);
            }
            takeFirstAlone(f, this);
        }

        /** The WAYS of f that no other WAY of f holds. */
        void takeGreatest(Ways f, Ways room) {
            room.copy(f);
            room.spreadDown();
            Arrays.fill(words, 0L);
            for (int level = 0; level < MOST_ROADS; level++) {
                lower(room, level);
            }
            takeFirstAlone(f, this);
        }

        /**
         * The sets of ROADS that share one with each WAY of f: those whose opposite holds no WAY. The least
         * ones have no ROAD that no WAY has.
         */
        void takeHitting(Ways f, Ways room) {
            room.copy(f);
            room.spreadUp();
            Arrays.fill(words, 0L);
            int unused = levelsBelow(f.used());
            for (int n = 0; n < PLACES >> unused; n++) {
                int place = n << unused;
                if (!room.holds(PLACES - 1 - place)) {
                    put(place);
                }
            }
        }

        /** f OVER g. */
        void takeOver(Ways f, Ways g, int[] places) {
            Arrays.fill(words, 0L);
            int free = (PLACES - 1) & ~g.used();
            int sets = 1 << Integer.bitCount(free);
            int set = 0;
            for (int n = 0; n < sets; n++) {
                put(set);
                set = nextWithin(set, free);
            }
            int size = g.list(places);
            for (int i = 0; i < size && i < places.length; i++) {
                set = 0;
                for (int n = 0; n < sets; n++) {
                    if (!f.holds(set | places[i])) {
                        take(set);
                    }
                    set = nextWithin(set, free);
                }
            }
        }

        /** The set behind this one among those that free holds (the least one behind the greatest). */
        private static int nextWithin(int set, int free) {
            return (set - free) & free;
        }
    }

    /** One search of THE NET for the WAYS of a KIND. */
    private static final class Search {
        private final Net net;
        private final Ways found;
        private int goal;
        private int least;
        private int wanted;
        private boolean whole;
        private int low;
        private int high;

        Search(Net net, Ways found) {
            this.net = net;
            this.found = found;
        }

        void findPaths(int a, int b, boolean through) {
            goal = b;
            least = through ? net.posts - 1 : 1;
            walk(a, 1 << a, 0, 0);
        }

        /** Each ROUND is walked from its least POST. */
        void findRounds(boolean through) {
            least = through ? Math.max(3, net.posts) : 3;
            for (int post = 0; post < net.posts; post++) {
                goal = post;
                walk(post, (1 << post) - 1, 0, 0);
            }
        }

        private void walk(int post, int shut, int place, int depth) {
            if (depth > MOST_POSTS) {
                return;
            }
            if (depth > 0 && post == goal) {
                if (Integer.bitCount(place) >= least) {
                    found.put(place);
                }
                return;
            }
            for (int road = 0; road < net.roads; road++) {
                int next = net.beyond(road, post);
                if (next >= 0 && (shut & (1 << next)) == 0) {
                    walk(next, shut | (1 << next), place | Net.placeOf(road), depth + 1);
                }
            }
        }

        void findTrees(int heaps) {
            wanted = heaps;
            whole = false;
            gather(0, 0, 0x76543210, net.posts);
        }

        void findParts(int heaps, int lowest, int highest) {
            wanted = heaps;
            whole = true;
            low = lowest;
            high = highest;
            gather(0, 0, 0x76543210, net.posts);
        }

        /** Each POST has four bits of labels: the number of one POST of its HEAP. */
        private void gather(int road, int place, int labels, int heaps) {
            if (heaps < wanted || heaps - (net.roads - road) > wanted) {
                return;
            }
            if (!net.isRoad(road)) {
                if (!whole || isParting(place, labels)) {
                    found.put(place);
                }
                return;
            }
            int a = label(labels, net.lesser[road]);
            int b = label(labels, net.greater[road]);
            if (a != b || !whole) {
                gather(road + 1, place, labels, heaps);
            }
            if (a != b) {
                gather(road + 1, place | Net.placeOf(road), relabelled(labels, b, a), heaps - 1);
            } else if (whole) {
                gather(road + 1, place | Net.placeOf(road), labels, heaps);
            }
        }

        private static int label(int labels, int post) {
            return (labels >>> (4 * post)) & 15;
        }

        private static int relabelled(int labels, int from, int to) {
            int changed = labels;
            for (int post = 0; post < MOST_POSTS; post++) {
                if (label(labels, post) == from) {
                    changed ^= (from ^ to) << (4 * post);
                }
            }
            return changed;
        }

        /** Whether no ROAD is left out within a HEAP, and each HEAP's LOADS fit. */
        private boolean isParting(int place, int labels) {
            for (int road = 0; road < net.roads && road < MOST_ROADS; road++) {
                boolean out = (place & Net.placeOf(road)) == 0;
                if (out && label(labels, net.lesser[road]) == label(labels, net.greater[road])) {
                    return false;
                }
            }
            for (int post = 0; post < net.posts; post++) {
                if (label(labels, post) == post && !isFitting(loadOf(post, labels))) {
                    return false;
                }
            }
            return true;
        }

        private boolean isFitting(int load) {
            return load >= low && load <= high;
        }

        private int loadOf(int heap, int labels) {
            int load = 0;
            for (int post = 0; post < net.posts && post < MOST_POSTS; post++) {
                if (label(labels, post) == heap) {
                    load += net.loads[post];
                }
            }
            return load;
        }

        void findPairs(boolean all) {
            whole = all;
            match(0, 0, 0);
        }

        private void match(int road, int place, int busy) {
            if (!net.isRoad(road)) {
                if (!whole || busy == (1 << net.posts) - 1) {
                    found.put(place);
                }
                return;
            }
            match(road + 1, place, busy);
            int both = (1 << net.lesser[road]) | (1 << net.greater[road]);
            if ((busy & both) == 0) {
                match(road + 1, place | Net.placeOf(road), busy | both);
            }
        }
    }

    /** Adds up one number for each ROAD of a WAY. */
    private static final class Sums {
        /** No SUM is further from 0. */
        private static final int FURTHEST = MOST_ROADS * MOST_WEIGHT;

        /** Per level, what its ROAD adds. */
        private final int[] adds = new int[MOST_ROADS];
        /** What the lowest six levels' bits add, and what the highest six do. */
        private final int[] lowSums = new int[WORDS];
        private final int[] highSums = new int[WORDS];
        private final int[] sizes = new int[2 * FURTHEST + 1];

        void learnWeights(Net net) {
            for (int level = 0; level < MOST_ROADS; level++) {
                adds[level] = net.weightOf(MOST_ROADS - 1 - level);
            }
            learn();
        }

        /** Sums are the places that WAYS have when each ROAD r is numbered ((r + 1) * k modulo 13) - 1. */
        void learnTurn(int k) {
            for (int level = 0; level < MOST_ROADS; level++) {
                int road = (MOST_ROADS - level) * k % 13 - 1;
                adds[level] = Net.placeOf(road);
            }
            learn();
        }

        private void learn() {
            for (int b = 0; b < WORD_LEVELS; b++) {
                for (int n = 0; n < 1 << b; n++) {
                    lowSums[(1 << b) + n] = lowSums[n] + adds[b];
                    highSums[(1 << b) + n] = highSums[n] + adds[b + WORD_LEVELS];
                }
            }
        }

        int of(int place) {
            return lowSums[place & (WORDS - 1)] + highSums[(place >> WORD_LEVELS) & (WORDS - 1)];
        }

        /** The place of the WAY with the i-th greatest (or least) SUM; NONE: there is none such. */
        int nthBest(int[] places, int size, boolean greatest, int i) {
            countSums(places, size);
            int left = i;
            for (int n = 0; n < sizes.length && left >= 0; n++) {
                int at = greatest ? sizes.length - 1 - n : n;
                if (left < sizes[at]) {
                    return nthOfSum(places, size, at - FURTHEST, left);
                }
                left -= sizes[at];
            }
            return NONE;
        }

        private void countSums(int[] places, int size) {
            Arrays.fill(sizes, 0);
            for (int n = 0; n < size && n < places.length; n++) {
                int at = of(places[n]) + FURTHEST;
                if (at >= 0 && at < sizes.length) {
                    sizes[at]++;
                }
            }
        }

        private int nthOfSum(int[] places, int size, int sum, int i) {
            int left = i;
            for (int n = 0; n < size && n < places.length; n++) {
                if (of(places[n]) == sum) {
                    if (left == 0) {
                        return places[n];
                    }
                    left--;
                }
            }
            return NONE;
        }
    }

    /** Counts for many sets of ROADS at once; those that differ just in ROADS of no WAY are left out. */
    private static final class Tally {
        private final long[] mine = new long[PLACES];
        private final long[] yours = new long[PLACES];

        /**
         * All unions of a WAY of f and one of g. The pairs whose union lies within a set are a product of
         * two counts; taking off those that lie within less leaves the pairs that make just the set.
         */
        void unite(Ways out, Ways f, Ways g) {
            int unused = Ways.levelsBelow(f.used() | g.used());
            int sets = PLACES >> unused;
            for (int n = 0; n < sets && n < PLACES; n++) {
                mine[n] = f.holds(n << unused) ? 1 : 0;
                yours[n] = g.holds(n << unused) ? 1 : 0;
            }
            addWithin(mine, sets, 1);
            addWithin(yours, sets, 1);
            for (int n = 0; n < sets && n < PLACES; n++) {
                mine[n] *= yours[n];
            }
            addWithin(mine, sets, -1);
            out.clear(FAMILY);
            for (int n = 0; n < sets && n < PLACES; n++) {
                if (mine[n] != 0) {
                    out.put(n << unused);
                }
            }
        }

        /** Adds to the count of each set those of all sets within it (takes them off again: sign -1). */
        private static void addWithin(long[] counts, int sets, int sign) {
            for (int level = 0; level < MOST_ROADS; level++) {
                for (int n = 0; n < sets && n < counts.length; n++) {
                    if ((n & (1 << level)) != 0) {
                        counts[n] += sign * counts[n ^ (1 << level)];
                    }
                }
            }
        }

        /** How many of 8 to the 12 a set of enough is there by, one ROAD's odds being e instead of its own. */
        long chanceOf(Ways enough, Net net, int road, int e) {
            int absent = MOST_ROADS - net.roads;
            int sets = PLACES >> absent;
            for (int n = 0; n < sets && n < PLACES; n++) {
                mine[n] = enough.holds(n << absent) ? 1 : 0;
            }
            for (int r = net.roads - 1; r >= 0; r--) {
                int yes = r == road ? e : net.eighthsOf(r);
                sets /= 2;
                for (int n = 0; n < sets && n < PLACES / 2; n++) {
                    mine[n] = mine[2 * n] * (EIGHT - yes) + mine[2 * n + 1] * yes;
                }
            }
            return mine[0] << (3 * absent);
        }
    }

    /** KNOTS in the order of THE ROWS. */
    private static final class Rows {
        /** Where a KNOT leads that leads to no KNOT. */
        private static final int TO_NONE = -1, TO_ALL = -2;
        /** No BOOK of twelve ROADS has more KNOTS than 765. */
        private static final int MOST_ROWS = 768;
        private static final int HEADS = 256;
        private static final int ROAD = 0, NO = 1, YES = 2, COUNT = 3;

        int size;
        /** Per column of a ROW. */
        final int[][] cells = new int[4][MOST_ROWS];
        /** ROWS of like mark() hang together: the latest one, and of each ROW the one before it. */
        private final int[] latest = new int[HEADS];
        private final int[] before = new int[MOST_ROWS];

        boolean isCell(int i, int what) {
            return i >= 0 && i < size && i < MOST_ROWS && what >= 0 && what < 4;
        }

        /** These become THE ROWS of a BOOK: how many. */
        int list(Ways ways) {
            clear();
            over(ways, 0, 0);
            return size;
        }

        private void clear() {
            size = 0;
            Arrays.fill(latest, NONE);
        }

        /** Lists THE BOOK of the WAYS in some words, which are alike in all ROADS below this one. */
        private int over(Ways ways, int road, int word) {
            if (word < 0 || word >= WORDS) {
                return TO_NONE;
            }
            if (road >= WORD_LEVELS) {
                return under(ways.words[word], road);
            }
            int no = over(ways, road + 1, word);
            int yes = over(ways, road + 1, word + (32 >> road));
            return knot(road, no, yes);
        }

        /** Lists THE BOOK of the WAYS in a part of a word, which are alike in all ROADS below this one. */
        private int under(long bits, int road) {
            if (bits == 0) {
                return TO_NONE;
            }
            if (bits == 1 || road >= MOST_ROADS) {
                return TO_ALL;
            }
            int half = 1 << (MOST_ROADS - 1 - road);
            int no = under(bits & ((1L << half) - 1), road + 1);
            int yes = under(bits >>> half, road + 1);
            return knot(road, no, yes);
        }

        private int knot(int road, int no, int yes) {
            if (yes == TO_NONE) {
                return no;
            }
            int like = find(road, no, yes);
            return like >= 0 ? like : add(road, no, yes);
        }

        private static int mark(int road, int no, int yes) {
            int mixed = (no * 31 + yes) * 31 + road;
            return (mixed ^ (mixed >>> 8)) & (HEADS - 1);
        }

        private int find(int road, int no, int yes) {
            int i = latest[mark(road, no, yes)];
            for (int steps = 0; steps < MOST_ROWS && isCell(i, ROAD); steps++) {
                if (cells[ROAD][i] == road && cells[NO][i] == no && cells[YES][i] == yes) {
                    return i;
                }
                i = before[i];
            }
            return NONE;
        }

        private int add(int road, int no, int yes) {
            if (size < 0 || size >= MOST_ROWS) {
                return TO_NONE;
            }
            int i = size;
            cells[ROAD][i] = road;
            cells[NO][i] = no;
            cells[YES][i] = yes;
            cells[COUNT][i] = countOf(no) + countOf(yes);
            int mark = mark(road, no, yes);
            before[i] = latest[mark];
            latest[mark] = i;
            size++;
            return i;
        }

        private int countOf(int lead) {
            if (isCell(lead, COUNT)) {
                return cells[COUNT][lead];
            }
            return lead == TO_ALL ? 1 : 0;
        }

        /** 8 times the number of the first ROW that is WRONG, and how; NONE: none is. */
        int firstWrong(Rows ahead) {
            ahead.clear();
            for (int i = 0; i < size && i < MOST_ROWS; i++) {
                int how = wrongness(i, ahead);
                if (how != 0) {
                    return 8 * i + how;
                }
                ahead.add(cells[ROAD][i], cells[NO][i], cells[YES][i]);
            }
            return NONE;
        }

        private int wrongness(int i, Rows ahead) {
            int road = cells[ROAD][i];
            int no = cells[NO][i];
            int yes = cells[YES][i];
            if (road < 0 || road >= MOST_ROADS || !isLead(no, i) || !isLead(yes, i)) {
                return 1;
            }
            if (roadOfLead(no) <= road || roadOfLead(yes) <= road) {
                return 2;
            }
            if (yes == TO_NONE) {
                return 3;
            }
            if (ahead.find(road, no, yes) >= 0) {
                return 4;
            }
            return cells[COUNT][i] == countOf(no) + countOf(yes) ? 0 : 5;
        }

        private static boolean isLead(int lead, int i) {
            return lead >= TO_ALL && lead < i;
        }

        /** The ROAD of a KNOT to which a ROW leads; above all ROADS if it leads to none. */
        private int roadOfLead(int lead) {
            return isCell(lead, ROAD) ? cells[ROAD][lead] : MOST_ROADS;
        }

        boolean isLike(Rows others) {
            if (size != others.size) {
                return false;
            }
            for (int i = 0; i < size && i < MOST_ROWS; i++) {
                for (int what = 0; what < 4; what++) {
                    if (cells[what][i] != others.cells[what][i]) {
                        return false;
                    }
                }
            }
            return true;
        }
    }

    /** SHEETS and SHELVES. */
    private static final class Host {
        private static final int NUMBERS = 6;
        private static final int MOST_ITEMS = 40;
        private static final int MOST_SORT = 2;
        /** From here on, what a SHELF is taken for is a sort of row. */
        private static final int FIRST_ROW = 6;

        /** Of each SHEET: its sort (NONE: it is missing), how many items, items. */
        private final int[] sorts = new int[NUMBERS];
        private final int[] lengths = new int[NUMBERS];
        private final int[][] items = new int[NUMBERS][MOST_ITEMS];
        /** Of each SHELF: a KIND, or FIRST_ROW and a sort (NONE: it holds nothing); how many it has. */
        private final int[] heldSorts = new int[NUMBERS];
        private final int[] heldSizes = new int[NUMBERS];

        Host() {
            Arrays.fill(sorts, NONE);
            Arrays.fill(heldSorts, NONE);
        }

        /** Whether there is a SHEET, or a SHELF, of this number. */
        boolean isNumber(int n) {
            return n >= 0 && n < NUMBERS;
        }

        int layOut(int sheet, int sort, int n) {
            if (!isNumber(sheet) || sort < NONE || sort > MOST_SORT || (sort != NONE && n > MOST_ITEMS)) {
                return BAD;
            }
            if (sort != NONE && n < 0) {
                return BELOW_ZERO;
            }
            sorts[sheet] = sort;
            lengths[sheet] = sort == NONE ? 0 : n;
            Arrays.fill(items[sheet], 0);
            return 1;
        }

        int fill(int sheet, int i, int v) {
            if (!isNumber(sheet)) {
                return BAD;
            }
            if (sorts[sheet] == NONE) {
                return NOTHING_THERE;
            }
            if (!isItem(sheet, i)) {
                return OUTSIDE;
            }
            items[sheet][i] = cut(sorts[sheet], v);
            return 1;
        }

        private boolean isItem(int sheet, int i) {
            return isNumber(sheet) && i >= 0 && i < lengths[sheet] && i < MOST_ITEMS;
        }

        private static int cut(int sort, int v) {
            switch (sort) {
                case 0: return (byte) v;
                case 1: return (short) v;
                default: return v;
            }
        }

        /** Why the three items from i on can't be had; 0: they can. */
        int refusalOfThree(int sheet, int sort, int i) {
            if (!isNumber(sheet) || sort < 0 || sort > MOST_SORT) {
                return BAD;
            }
            if (sorts[sheet] == NONE) {
                return NOTHING_THERE;
            }
            if (sorts[sheet] != sort) {
                return OTHER_KIND;
            }
            return i >= 0 && i < lengths[sheet] - 2 ? 0 : OUTSIDE;
        }

        int item(int sheet, int i) {
            return isItem(sheet, i) ? items[sheet][i] : NONE;
        }

        int hold(int shelf, int sort, int size) {
            if (!isNumber(shelf)) {
                return BAD;
            }
            heldSorts[shelf] = sort;
            heldSizes[shelf] = size;
            return 1;
        }

        int holdSheet(int shelf, int sheet) {
            if (!isNumber(sheet)) {
                return BAD;
            }
            int sort = sorts[sheet];
            return hold(shelf, sort == NONE ? NONE : FIRST_ROW + sort, lengths[sheet]);
        }

        int heldFor(int shelf, int as) {
            if (!isNumber(shelf) || as < 0 || as > FIRST_ROW + MOST_SORT) {
                return BAD;
            }
            int sort = heldSorts[shelf];
            if (sort == NONE) {
                return NOTHING_THERE;
            }
            return isOne(sort, as) ? heldSizes[shelf] : OTHER_KIND;
        }

        /** Whether what is of a sort is one of another, too. */
        private static boolean isOne(int sort, int as) {
            if (sort == as) {
                return true;
            }
            int kind = sort;
            for (int steps = 0; steps < KIND_ABOVE.length && kind >= 0 && kind < KIND_ABOVE.length; steps++) {
                kind = KIND_ABOVE[kind];
                if (kind == as) {
                    return true;
                }
            }
            return false;
        }
    }

    /** The ACTS of FAMILIES, and THE TRACE of the latest one. */
    private static final class Acts {
        private static final int FITS = 0, JOINS = 1, WEIGHS = 2;
        /** Per KIND: the body that it runs, its own or that of the next KIND above that has one. */
        private static final int[] FITTING = {10, 20, 20, 10, 10, 60};
        private static final int[] JOINING = {11, 11, 30, 40, 11, 61};
        private static final int[] WEIGHING = {12, 21, 21, 12, 50, 12};
        private static final int MOST_KEPT = 40;
        private static final int DEEPEST = 20;

        int ran;
        private final int[] bodies = new int[MOST_KEPT];
        private int kind;
        private int ways;

        void forget() {
            ran = 0;
        }

        int begin(int ofKind, int size, int act, int x) {
            kind = ofKind;
            ways = size;
            return run(kind, act, x, 0);
        }

        int kept(int i) {
            return i >= 0 && i < ran && i < MOST_KEPT ? bodies[i] : NONE;
        }

        private void note(int body) {
            if (ran >= 0 && ran < MOST_KEPT) {
                bodies[ran] = body;
            }
            ran++;
        }

        private static int bodyOf(int from, int act) {
            if (from < 0 || from >= KIND_ABOVE.length) {
                return NONE;
            }
            switch (act) {
                case FITS: return FITTING[from];
                case JOINS: return JOINING[from];
                default: return WEIGHING[from];
            }
        }

        /** Runs the body that the KIND has, or the next KIND above it that has one. */
        private int run(int from, int act, int x, int depth) {
            if (depth > DEEPEST) {
                return 0;
            }
            int deeper = depth + 1;
            int body = bodyOf(from, act);
            note(body);
            switch (body) {
                case 10: return x + ways;
                case 11: return run(kind, FITS, x, deeper) * 3;
                case 12: return run(kind, JOINS, x, deeper) - run(kind, FITS, x + 1, deeper);
                case 20: return run(FAMILY, FITS, x, deeper) * 2;
                case 21: return run(FAMILY, WEIGHS, x, deeper) ^ 5;
                case 30: return run(PATHS, JOINS, x, deeper) + run(kind, FITS, x, deeper);
                case 40: return run(FAMILY, JOINS, x + ways, deeper);
                case 50: return run(kind, FITS, x, deeper) - run(FAMILY, WEIGHS, x, deeper);
                case 60: return run(TREES, FITS, x, deeper) + 7;
                case 61: return run(TREES, JOINS, x, deeper) * 2;
                default: return 0;
            }
        }
    }
}
