/** The edges of THE NET: Terms 1, promises 1 to 5, 18, 19 and 44. */
final class NetEdges {
    private static final int NONE = -1, BAD = -2, STATE = -3, FULL = -4;
    private static final int MIN = Integer.MIN_VALUE, MAX = Integer.MAX_VALUE;
    private static final long SURE = 68719476736L; // 8 to the 12

    private NetEdges() {
    }

    static void run(Edge e) {
        mostPosts(e);
        loads(e);
        mostRoads(e);
        unlikePosts(e);
        oneBetween(e);
        weights(e);
        eighths(e);
        masks(e);
        sums(e);
        order(e);
        mostFamilies(e);
        kinds(e);
        madeStays(e);
        atAPost(e);
        heaps(e);
        rings(e);
        newObject(e);
        post(e);
        road(e);
        roadRefused(e);
        roadState(e);
        roadFull(e);
        odds(e);
        roadOf(e);
        drop(e);
        close(e);
        there(e);
    }

    // ---- terms

    private static void mostPosts(Edge e) {
        e.terms(1, "THE NET has POSTS (8 at most, numbered from 0),");
        WayBook b = new WayBook();
        for (int p = 0; p < 8; p++) {
            e.is("post number", b.post(5), p);
            e.is("how many", b.there(0), p + 1);
        }
        e.refused("the ninth", () -> Nets.posts(8), x -> x.post(5), FULL);
        e.is("a road to post 7", b.road(0, 7, 0), 0);
        e.is("a road to post 8", b.road(0, 8, 0), BAD);
        e.is("a road to post 6 of seven", Nets.posts(7).road(0, 6, 0), 0);
        e.is("a road to post 7 of seven", Nets.posts(7).road(0, 7, 0), BAD);
    }

    private static void loads(Edge e) {
        e.terms(1, "each with a LOAD 0 .. 99,");
        e.range("post(load)", 0, 99, WayBook::new, WayBook::post, BAD);
        for (int load : new int[] {0, 1, 98, 99}) {
            WayBook b = new WayBook();
            b.post(load);
            e.ways("its heap has load " + load, b, b.parts(1, load, load), 0);
            e.ways("not one less than " + load, b, b.parts(1, load - 1, load - 1));
            e.ways("not one more than " + load, b, b.parts(1, load + 1, load + 1));
        }
    }

    private static void mostRoads(Edge e) {
        e.terms(1, "and ROADS (12 at most, numbered from 0),");
        WayBook b = Nets.cube();
        e.is("twelve", b.there(1), 12);
        e.refused("the 13th", Nets::cube, x -> x.road(0, 7, 0), FULL);
        e.is("close", b.close(), 11);
        e.is("the 12th has number 11", b.road(0, 7, 3), 11);
        e.is("the 13th", b.road(1, 6, 0), FULL);
        e.is("the 12th stays", b.roadOf(11, 2), 3);
        e.is("the first has number 0", Nets.posts(2).road(0, 1, 0), 0);
    }

    private static void unlikePosts(Edge e) {
        e.terms(1, "each between two unlike POSTS");
        for (int p = 0; p < 8; p++) {
            int post = p;
            e.refused(p + " and " + p, () -> Nets.posts(8), x -> x.road(post, post, 0), BAD);
            if (p > 0) {
                e.is(p + " and one less", Nets.posts(8).road(p, p - 1, 0), 0);
                e.is("one less and " + p, Nets.posts(8).road(p - 1, p, 0), 0);
            }
        }
    }

    private static void oneBetween(Edge e) {
        e.terms(1, "(at most one between the same two),");
        e.is("the first", Nets.posts(3).road(0, 1, 0), 0);
        e.refused("a second", () -> Nets.ring(3), x -> x.road(0, 1, 1), STATE);
        e.refused("a second the other way", () -> Nets.ring(3), x -> x.road(1, 0, 2), STATE);
        e.refused("a second for the last one", () -> Nets.ring(3), x -> x.road(0, 2, 2), STATE);
        WayBook b = Nets.posts(4);
        b.road(1, 2, 0);
        e.is("one of the two and another", b.road(1, 3, 0), 1);
        e.is("the other of the two and another", b.road(0, 2, 0), 2);
        e.is("neither", b.road(0, 3, 0), 3);
    }

    private static void weights(Edge e) {
        e.terms(1, "with a WEIGHT -50 .. 50");
        e.range("road(.., weight)", -50, 50, () -> Nets.posts(2), (b, w) -> b.road(0, 1, w), BAD);
        for (int weight : new int[] {-50, -49, 0, 49, 50}) {
            WayBook b = Nets.posts(2);
            b.road(1, 0, weight);
            e.is("weight " + weight, b.roadOf(0, 2), weight);
            e.is("its sum", b.total(b.tell(1)), weight);
        }
    }

    private static void eighths(Edge e) {
        e.terms(1, "and ODDS 0 .. 8 (of eight; 4 at first).");
        e.is("at first", Nets.ring(3).roadOf(2, 3), 4);
        e.range("odds(.., e)", 0, 8, () -> Nets.ring(3), (b, x) -> b.odds(1, x), BAD);
        WayBook b = Nets.ring(3);
        int f = b.tell(1);
        e.is("4 of eight", b.chance(f), SURE / 8 * 4);
        for (int odds = 0; odds <= 8; odds++) {
            b.odds(0, odds);
            e.is(odds + " are told", b.roadOf(0, 3), odds);
            e.is(odds + " of eight", b.chance(f), SURE / 8 * odds);
        }
        b.odds(2, 7);
        b.close();
        b.road(0, 2, 1);
        e.is("4 again, when a road comes anew", b.roadOf(2, 3), 4);
    }

    private static void masks(Edge e) {
        e.terms(1, "A WAY is a set of ROADS, told as a MASK (bit r: ROAD r).");
        for (int road : new int[] {0, 1, 10, 11}) {
            WayBook b = Nets.cube();
            int f = b.tell(1 << road);
            e.is("bit " + road, b.way(f, 0), 1 << road);
            for (int r = 0; r < 12; r++) {
                e.is("road " + r + " of bit " + road, b.often(f, r), r == road ? 1 : 0);
            }
        }
        WayBook b = Nets.cube();
        e.is("no road", b.told(b.tell(0), 2), 0);
        e.is("all roads", b.told(b.tell(4095), 2), 4095);
        e.is("all but the last", b.told(b.tell(2047), 2), 2047);
        e.is("all but the first", b.told(b.tell(4094), 2), 4094);
    }

    private static void sums(Edge e) {
        e.terms(1, "Its SUM is that of its WEIGHTS.");
        for (int weight : new int[] {50, -50}) {
            WayBook b = Nets.stars(weight);
            int sum = 12 * weight;
            int all = b.all(4095);
            e.ways("sum " + sum, b, b.within(all, sum, sum), 4095);
            e.ways("sum one more", b, b.within(all, sum + 1, sum + 1));
            e.ways("sum one less", b, b.within(all, sum - 1, sum - 1));
            e.ways("sum 0", b, b.within(all, 0, 0), 0);
            e.is("of one way", b.total(b.tell(4095)), sum);
            e.is("of one without the last", b.total(b.tell(2047)), sum - weight);
            e.is("of the bare way", b.total(b.tell(0)), 0);
        }
    }

    private static void order(Edge e) {
        e.terms(1, "THE ORDER of WAYS: of two the one that has not the least ROAD in which they differ comes first.");
        for (int road = 0; road < 12; road++) {
            WayBook b = Nets.cube();
            e.ways("without and with " + road, b, Nets.family(b, 1 << road, 0), 0, 1 << road);
            int above = 4095 & ~((2 << road) - 1);
            e.ways("all above ahead of " + road, b, Nets.family(b, 1 << road, above), above, 1 << road);
            int below = (1 << road) - 1;
            e.ways("like below", b, Nets.family(b, below | 1 << road, below), below, below | 1 << road);
            if (road < 11) {
                e.ways("one more ahead of " + road, b, Nets.family(b, 1 << road, 2 << road), 2 << road, 1 << road);
            }
        }
    }

    private static void mostFamilies(Edge e) {
        e.terms(1, "FAMILIES (30 at most, numbered from 0) are sets of WAYS;");
        WayBook b = Nets.ring(3);
        for (int f = 0; f < 30; f++) {
            e.is("family number", b.tell(f % 8), f);
        }
        e.is("the 31st", b.tell(0), FULL);
        e.ways("the first", b, 0, 0);
        e.ways("the 29th", b, 28, 4);
        e.ways("the 30th", b, 29, 5);
        e.is("how many", b.there(2), 30);
        WayBook c = Nets.ring(3);
        c.tell(3);
        e.ways("twice the same way is one", c, c.join(1, 0, c.tell(3)), 3);
    }

    private static WayBook oneOfEachKind() {
        WayBook b = Nets.complete(4);
        b.all(63);
        b.paths(0, 1, false);
        b.rounds(false);
        b.trees(1);
        b.pairs(false);
        b.parts(2, 0, 99);
        return b;
    }

    private static void kinds(Edge e) {
        e.terms(1, "each has a KIND by the call that made it: 0 FAMILY, 1 PATHS, 2 ROUNDS (PATHS, too), 3 TREES, "
            + "4 PAIRS, 5 PARTS (TREES, too); all are FAMILIES.");
        WayBook b = oneOfEachKind();
        int[] kinds = {0b1, 0b11, 0b111, 0b1001, 0b10001, 0b101001};
        for (int kind = 0; kind < 6; kind++) {
            e.is("kind " + kind, b.told(kind, 0), kind);
            b.shelf(kind, 0, kind);
            for (int as = 0; as < 6; as++) {
                boolean is = (kinds[kind] >> as & 1) != 0;
                e.is("kind " + kind + " for " + as, b.taken(kind, as), is ? b.count(kind) : -13);
            }
        }
        e.is("tell", b.told(b.tell(0), 0), 0);
        e.is("tell(-1)", b.told(b.tell(-1), 0), 0);
        e.is("paths through", b.told(b.paths(0, 1, true), 0), 1);
        e.is("rounds through", b.told(b.rounds(true), 0), 2);
        e.is("pairs of all", b.told(b.pairs(true), 0), 4);
    }

    private static void madeStays(Edge e) {
        e.terms(1, "What is made stays, whatever comes to THE NET later.");
        WayBook b = oneOfEachKind();
        int[][] was = new int[6][];
        for (int f = 0; f < 6; f++) {
            was[f] = new int[b.count(f)];
            for (int i = 0; i < was[f].length && i < 12; i++) {
                was[f][i] = b.way(f, i);
            }
        }
        b.post(9);
        b.road(0, 4, 1);
        b.road(1, 4, 1);
        b.odds(0, 8);
        e.is("others would be made now", b.count(b.paths(0, 1, false)) > was[1].length ? 1 : 0, 1);
        for (int road = 0; road < 8; road++) {
            b.close();
        }
        e.is("no road is left", b.there(1), 0);
        for (int f = 0; f < 6; f++) {
            e.is("count of " + f, b.count(f), was[f].length);
            for (int i = 0; i < was[f].length && i < 12; i++) {
                e.is("way " + i + " of " + f, b.way(f, i), was[f][i]);
            }
        }
    }

    private static void atAPost(Edge e) {
        e.terms(1, "AT a POST: how many ROADS of a WAY have it.");
        WayBook b = Nets.stars(1);
        int f = b.all(127);
        e.ways("seven", b, b.degrees(f, 0, 7, 7), 127);
        e.ways("eight", b, b.degrees(f, 0, 8, 8));
        e.is("six", b.count(b.degrees(f, 0, 6, 6)), 7);
        e.ways("none", b, b.degrees(f, 0, 0, 0), 0);
        e.is("less than none", b.count(b.degrees(f, 0, -1, -1)), 0);
        e.is("one at the other end", b.count(b.degrees(f, 7, 1, 1)), 64);
        e.is("none at the other end", b.count(b.degrees(f, 7, 0, 0)), 64);
    }

    private static void heaps(Edge e) {
        e.terms(1, "HEAPS of a WAY: the greatest sets of POSTS that hang together by its ROADS "
            + "(a POST without any is one).");
        for (int posts = 1; posts <= 8; posts++) {
            WayBook bare = Nets.posts(posts);
            e.ways(posts + " posts are as many heaps", bare, bare.trees(posts), 0);
            if (posts > 1) {
                e.ways("and not one less", bare, bare.trees(posts - 1));
                WayBook chain = Nets.chain(posts);
                int all = (1 << (posts - 1)) - 1;
                e.is("a chain of " + posts + " is one", chain.has(chain.parts(1, 0, 999), all), 1);
                e.is("and not two", chain.has(chain.parts(2, 0, 999), all), 0);
                e.is("without a road it is two", chain.has(chain.parts(2, 0, 999), all / 2), 1);
            }
        }
    }

    private static void rings(Edge e) {
        e.terms(1, "A WAY has a RING if some of its ROADS can be gone through one behind the other, each once, "
            + "back to where one began.");
        WayBook two = Nets.posts(2);
        two.road(0, 1, 0);
        e.ways("one road there and back is none", two, two.trees(1), 1);
        for (int posts = 3; posts <= 8; posts++) {
            WayBook b = Nets.ring(posts);
            int all = (1 << posts) - 1;
            for (int heaps = 1; heaps <= posts; heaps++) {
                e.is("a ring of " + posts, b.has(b.trees(heaps), all), 0);
            }
            e.is("all but one of its roads", b.has(b.trees(1), all >> 1), 1);
        }
        WayBook c = Nets.complete(4); // 0: 01, 1: 02, 2: 03, 3: 12
        int trees = c.trees(1);
        e.is("a ring with one more road", c.has(trees, 0b001111), 0);
        e.is("a ring that leaves a post out", c.has(c.trees(2), 0b001011), 0);
        e.is("no ring", c.has(trees, 0b000111), 1);
        for (WayBook b : Nets.ringsOfFour()) {
            e.ways("a ring of four, its roads in any order", b, b.trees(1), 14, 13, 11, 7);
        }
    }

    // ---- promises

    private static void newObject(Edge e) {
        e.promise(1, "No POSTS, ROADS, FAMILIES.");
        e.is("posts", new WayBook().there(0), 0);
        e.is("roads", new WayBook().there(1), 0);
        e.is("families", new WayBook().there(2), 0);
        e.is("rows", new WayBook().there(3), 0);
        e.is("bodies", new WayBook().there(4), 0);
        e.is("the first post", new WayBook().post(0), 0);
        e.is("the first road needs two", new WayBook().road(0, 1, 0), BAD);
        e.is("the first road", Nets.posts(2).road(0, 1, 0), 0);
        e.is("the first family", new WayBook().rounds(false), 0);
        e.refused("family 0", WayBook::new, b -> b.count(0), BAD);
        WayBook one = Nets.rich();
        e.is("an object of one's own", one.there(0), 3);
        e.is("another one has none", new WayBook().there(0), 0);
    }

    private static void post(Edge e) {
        e.promise(2, "A POST: its number.");
        WayBook b = new WayBook();
        e.is("the first", b.post(0), 0);
        e.is("the second", b.post(99), 1);
        e.is("the eighth", Nets.posts(7).post(1), 7);

        e.promise(2, "BAD: load;");
        e.range("no posts", 0, 99, WayBook::new, WayBook::post, BAD);
        e.range("seven posts", 0, 99, () -> Nets.posts(7), WayBook::post, BAD);
        e.is("load 0 of a ninth", Nets.posts(8).post(0), FULL);
        e.is("load 99 of a ninth", Nets.posts(8).post(99), FULL);
        e.refused("load -1 of a ninth", () -> Nets.posts(8), x -> x.post(-1), BAD);
        e.refused("load 100 of a ninth", () -> Nets.posts(8), x -> x.post(100), BAD);

        e.promise(2, "FULL.");
        e.is("to seven", Nets.posts(7).post(3), 7);
        e.refused("to eight", () -> Nets.posts(8), x -> x.post(3), FULL);
    }

    private static void road(Edge e) {
        e.promise(3, "A ROAD: its number.");
        WayBook b = Nets.posts(8);
        e.is("the first", b.road(7, 0, 1), 0);
        e.is("the second", b.road(6, 7, 1), 1);
        WayBook c = Nets.cube();
        c.close();
        e.is("the twelfth", c.road(0, 7, 1), 11);
    }

    private static void roadRefused(Edge e) {
        e.promise(3, "BAD: POSTS,");
        for (int n = 2; n <= 8; n += 3) {
            int posts = n;
            e.range("a of " + n, 0, n - 1, () -> Nets.posts(posts), (b, a) -> b.road(a, a == 0 ? 1 : 0, 0), BAD);
            e.range("b of " + n, 0, n - 1, () -> Nets.posts(posts), (b, x) -> b.road(x == 0 ? 1 : 0, x, 0), BAD);
        }
        e.refused("a is the number of posts", () -> Nets.posts(4), b -> b.road(4, 0, 0), BAD);
        e.is("a is one less", Nets.posts(4).road(3, 0, 0), 0);
        e.refused("no posts", WayBook::new, b -> b.road(0, 1, 0), BAD);
        e.refused("one post", () -> Nets.posts(1), b -> b.road(0, 1, 0), BAD);
        e.refused("one post, the other way", () -> Nets.posts(1), b -> b.road(1, 0, 0), BAD);
        e.refused("both none such", () -> Nets.posts(8), b -> b.road(8, 9, 0), BAD);

        e.promise(3, "a = b,");
        e.refused("0 and 0", () -> Nets.posts(2), b -> b.road(0, 0, 0), BAD);
        e.refused("1 and 1", () -> Nets.posts(2), b -> b.road(1, 1, 0), BAD);
        e.is("0 and 1", Nets.posts(2).road(0, 1, 0), 0);
        e.is("1 and 0", Nets.posts(2).road(1, 0, 0), 0);
        e.refused("7 and 7 of a full net", Nets::cube, b -> b.road(7, 7, 0), BAD);

        e.promise(3, "weight;");
        e.range("weight", -50, 50, () -> Nets.posts(8), (b, w) -> b.road(7, 6, w), BAD);
        e.refused("weight 51 where there is one", () -> Nets.ring(3), b -> b.road(0, 1, 51), BAD);
        e.refused("weight -51 where there is one", () -> Nets.ring(3), b -> b.road(0, 1, -51), BAD);
        e.refused("weight 51 of a 13th", Nets::cube, b -> b.road(0, 7, 51), BAD);
    }

    private static void roadState(Edge e) {
        e.promise(3, "STATE: there is one between them;");
        e.is("there is none", Nets.posts(2).road(0, 1, 0), 0);
        e.refused("there is one", () -> Nets.ring(3), b -> b.road(1, 2, 9), STATE);
        e.refused("there is one, from 2 to 1", () -> Nets.ring(3), b -> b.road(2, 1, 50), STATE);
        e.refused("the first of twelve", Nets::cube, b -> b.road(0, 1, 0), STATE);
        e.refused("the last of twelve", Nets::cube, b -> b.road(3, 7, 0), STATE);
        WayBook b = Nets.ring(3);
        b.close();
        e.is("there is none any more", b.road(2, 0, 4), 2);
        e.is("there is one again", b.road(2, 0, 4), STATE);
    }

    private static void roadFull(Edge e) {
        e.promise(3, "FULL.");
        WayBook b = Nets.cube();
        b.close();
        e.is("to eleven", b.road(0, 7, 0), 11);
        e.is("to twelve", b.road(1, 7, 0), FULL);
        e.refused("a 13th", Nets::cube, x -> x.road(0, 7, 0), FULL);
        e.refused("a 13th, weight 50", Nets::cube, x -> x.road(6, 1, 50), FULL);
    }

    private static void odds(Edge e) {
        e.promise(4, "ODDS of a ROAD: what they were.");
        WayBook b = Nets.cube();
        for (int road : new int[] {0, 11}) {
            e.is("at first", b.odds(road, 0), 4);
            e.is("0", b.odds(road, 8), 0);
            e.is("8", b.odds(road, 8), 8);
            e.is("8 still", b.odds(road, 1), 8);
            e.is("now 1", b.roadOf(road, 3), 1);
        }
        e.is("that of 1 stays", b.roadOf(1, 3), 4);
        e.is("that of 10 stays", b.roadOf(10, 3), 4);

        e.promise(4, "BAD.");
        e.range("road of three", 0, 2, Nets::rich, (x, road) -> x.odds(road, 8), BAD);
        e.range("road of twelve", 0, 11, Nets::cube, (x, road) -> x.odds(road, 8), BAD);
        e.range("road of none", 0, -1, () -> Nets.posts(8), (x, road) -> x.odds(road, 8), BAD);
        e.range("e", 0, 8, Nets::rich, (x, odds) -> x.odds(2, odds), BAD);
        e.range("e of no such road", 0, -1, Nets::rich, (x, odds) -> x.odds(3, odds), BAD);
    }

    private static void roadOf(Edge e) {
        e.promise(5, "Of a ROAD: 0 the lesser one of its POSTS, 1 the other one, 2 its WEIGHT, 3 its ODDS.");
        int[][] ends = {{0, 7}, {7, 0}, {6, 7}, {7, 6}, {0, 1}, {1, 0}};
        for (int[] two : ends) {
            WayBook b = Nets.posts(8);
            b.road(two[0], two[1], -50);
            String call = two[0] + " to " + two[1];
            e.is(call + ", lesser", b.roadOf(0, 0), Math.min(two[0], two[1]));
            e.is(call + ", other", b.roadOf(0, 1), Math.max(two[0], two[1]));
            e.is(call + ", weight", b.roadOf(0, 2), -50);
            e.is(call + ", odds", b.roadOf(0, 3), 4);
            b.odds(0, 8);
            e.is(call + ", odds now", b.roadOf(0, 3), 8);
        }
        WayBook c = Nets.posts(2);
        c.road(0, 1, -2);
        e.is("a weight may be -2", c.roadOf(0, 2), -2);

        e.promise(5, "BAD.");
        for (int what = 0; what < 4; what++) {
            int asked = what;
            e.range("what " + what + " of road", 0, 11, Nets::cube, (b, road) -> b.roadOf(road, asked), BAD);
        }
        e.range("what", 0, 3, Nets::cube, (b, what) -> b.roadOf(11, what), BAD);
        e.range("road of none", 0, -1, () -> Nets.posts(8), (b, road) -> b.roadOf(road, 0), BAD);
        WayBook b = Nets.cube();
        b.close();
        e.is("the one that went", b.roadOf(11, 0), BAD);
        e.is("the one ahead of it", b.roadOf(10, 0), 2);
    }

    private static void drop(Edge e) {
        e.promise(18, "The FAMILY that was made last goes: how many there are.");
        WayBook b = Nets.families(30);
        e.is("of thirty", b.drop(), 29);
        e.is("number 29 is gone", b.count(29), BAD);
        e.is("number 28 is there", b.count(28), 1);
        for (int left = 28; left >= 0; left--) {
            e.is("then", b.drop(), left);
            e.is("there", b.there(2), left);
            e.is("number " + left + " is gone", b.count(left), BAD);
            if (left > 0) {
                e.isNot("the one ahead is there", b.count(left - 1), BAD);
            }
        }
        e.is("its number comes again", b.rounds(false), 0);
        e.is("with ways of its own", b.count(0), 1);

        e.promise(18, "BAD: there is none.");
        e.refused("none", () -> Nets.ring(3), WayBook::drop, BAD);
        WayBook c = Nets.ring(3);
        c.tell(-1);
        e.is("one", c.drop(), 0);
        e.is("none any more", c.drop(), BAD);
        e.is("there are 0 still", c.there(2), 0);
        e.is("then 0 again", c.tell(0), 0);
    }

    private static void close(Edge e) {
        e.promise(19, "The ROAD that came last goes: how many there are");
        WayBook b = Nets.cube();
        for (int left = 11; left >= 0; left--) {
            e.is("close", b.close(), left);
            e.is("there", b.there(1), left);
            e.is("number " + left + " is gone", b.odds(left, 4), BAD);
            if (left > 0) {
                e.is("the one ahead is there", b.odds(left - 1, 4), 4);
            }
        }
        e.is("its number comes again", b.road(0, 1, 0), 0);

        e.promise(19, "(FAMILIES stay as they are).");
        WayBook c = Nets.cube();
        int last = c.tell(2048);
        int all = c.all(4095);
        c.close();
        e.ways("the road that went", c, last, 2048);
        e.is("all that there were", c.count(all), 4096);
        e.is("its knots", c.told(all, 1), 12);
        for (int road = 0; road < 11; road++) {
            c.close();
        }
        e.ways("all went", c, last, 2048);
        e.is("how many families", c.there(2), 2);

        e.promise(19, "BAD: there is none.");
        e.refused("none", () -> Nets.posts(8), WayBook::close, BAD);
        WayBook d = Nets.posts(2);
        d.road(0, 1, 0);
        e.is("one", d.close(), 0);
        e.is("none any more", d.close(), BAD);
        e.is("there are 0 still", d.there(1), 0);
        e.is("then 0 again", d.road(0, 1, 0), 0);
    }

    private static void there(Edge e) {
        e.promise(44, "How many: 0 POSTS, 1 ROADS, 2 FAMILIES, 3 ROWS,");
        for (int posts = 0; posts <= 8; posts++) {
            e.is("posts", Nets.posts(posts).there(0), posts);
        }
        e.is("no roads", Nets.posts(8).there(1), 0);
        e.is("twelve roads", Nets.cube().there(1), 12);
        e.is("no families", Nets.cube().there(2), 0);
        e.is("thirty families", Nets.families(30).there(2), 30);
        WayBook b = Nets.cube();
        e.is("no rows", b.there(3), 0);
        b.write(b.tell(2048));
        e.is("one row", b.there(3), 1);
        b.write(b.all(4095));
        e.is("twelve rows", b.there(3), 12);
        b.write(b.tell(0));
        e.is("no rows again", b.there(3), 0);

        e.promise(44, "4 bodies of THE TRACE (all that ran, kept or not).");
        WayBook c = Nets.rich();
        e.is("a round joins", c.there(4), 6);
        c.act(2, 2, 0);
        e.is("a round weighs: as many as any", c.there(4), 10);
        c.act(0, 0, 0);
        e.is("just one", c.there(4), 1);
        c.act(0, 3, 0);
        e.is("none", c.there(4), 0);

        e.promise(44, "BAD.");
        e.range("there(what)", 0, 4, Nets::rich, WayBook::there, BAD);
        e.is("what NONE", new WayBook().there(NONE), BAD);
    }
}
