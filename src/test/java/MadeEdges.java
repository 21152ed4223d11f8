/** The edges of FAMILIES that are made of THE NET: promises 6 to 13. */
final class MadeEdges {
    private static final int BAD = -2, FULL = -4;
    private static final int MIN = Integer.MIN_VALUE, MAX = Integer.MAX_VALUE;

    private MadeEdges() {
    }

    static void run(Edge e) {
        tell(e);
        all(e);
        paths(e);
        pathsThrough(e);
        rounds(e);
        roundsThrough(e);
        trees(e);
        pairs(e);
        parts(e);
        partsLoads(e);
        degrees(e);
    }

    /** The first MASK that has another than n ROADS, the last one that has not, and those further off. */
    private static void maskEdges(Edge e, String call, Edge.Call maker) {
        for (int roads : new int[] {0, 1, 2, 11, 12}) {
            int last = (1 << roads) - 1;
            e.is(call + " of " + roads + ", last mask", maker.with(Nets.starsOf(roads), last), 0);
            e.is(call + " of " + roads + ", mask 0", maker.with(Nets.starsOf(roads), 0), 0);
            for (int mask : new int[] {last + 1, (last + 1) | 1, 8192, MAX, MIN, MIN | last, -2, -4096}) {
                e.refused(call + " of " + roads + ", mask " + mask, () -> Nets.starsOf(roads),
                    b -> maker.with(b, mask), BAD);
            }
        }
        WayBook b = Nets.stars(1);
        b.close();
        e.is(call + ", the road that went", maker.with(b, 2048), BAD);
        e.is(call + ", the one ahead of it", maker.with(b, 1024), 0);
        e.refused(call + ", full", () -> Nets.families(30), x -> maker.with(x, 8), BAD);
        e.is(call + ", full, last mask", maker.with(Nets.families(30), 7), FULL);
    }

    private static void tell(Edge e) {
        e.promise(6, "Just one WAY;");
        WayBook b = Nets.stars(1);
        for (int mask : new int[] {0, 1, 2048, 2047, 4094, 4095}) {
            int f = b.tell(mask);
            e.ways("tell(" + mask + ")", b, f, mask);
            e.is("nothing else", b.has(f, mask ^ 1) + b.has(f, mask ^ 2048), 0);
        }

        e.promise(6, "mask = -1: without any.");
        e.ways("tell(-1)", b, b.tell(-1));
        e.ways("tell(0)", b, b.tell(0), 0);
        e.refused("tell(-2)", () -> Nets.stars(1), x -> x.tell(-2), BAD);
        WayBook none = new WayBook();
        e.ways("tell(-1) without roads", none, none.tell(-1));

        e.promise(6, "BAD: mask has others than ROADS.");
        maskEdges(e, "tell", WayBook::tell);

        e.promise(6, "FULL.");
        e.full("tell(7)", x -> x.tell(7));
        e.full("tell(-1)", x -> x.tell(-1));
    }

    private static void all(Edge e) {
        e.promise(7, "All sets of the ROADS of a mask.");
        WayBook b = Nets.stars(1);
        e.ways("none", b, b.all(0), 0);
        e.ways("the first", b, b.all(1), 0, 1);
        e.ways("the last", b, b.all(2048), 0, 2048);
        e.ways("the first and the last", b, b.all(2049), 0, 2048, 1, 2049);
        int all = b.all(4095);
        e.is("all", b.count(all), 4096);
        e.is("each road in half of them", b.often(all, 11), 2048);
        int most = b.all(4094);
        e.is("all but the first", b.count(most), 2048);
        e.is("the first in none", b.often(most, 0), 0);
        e.is("all of them", b.has(most, 4094), 1);

        e.promise(7, "BAD;");
        maskEdges(e, "all", WayBook::all);
        e.refused("all(-1)", () -> Nets.stars(1), x -> x.all(-1), BAD);
        e.refused("all(-1) without roads", WayBook::new, x -> x.all(-1), BAD);

        e.promise(7, "FULL.");
        e.full("all(7)", x -> x.all(7));
    }

    private static void paths(Edge e) {
        e.promise(8, "PATHS: WAYS that lead from POST a to POST b, no POST twice;");
        WayBook one = Nets.chain(2);
        e.ways("one road", one, one.paths(0, 1, false), 1);
        e.ways("one road, the other way", one, one.paths(1, 0, false), 1);
        WayBook apart = Nets.posts(2);
        e.ways("no road", apart, apart.paths(0, 1, false));
        WayBook chain = Nets.chain(8);
        e.ways("seven roads", chain, chain.paths(0, 7, false), 127);
        e.ways("not the one behind b", chain, chain.paths(0, 6, false), 63);
        e.ways("not the one ahead of a", chain, chain.paths(1, 7, false), 126);
        WayBook ring = Nets.ring(8);
        e.ways("both ways round", ring, ring.paths(0, 1, false), 254, 1);
        WayBook loop = Nets.ring(3);
        loop.post(1);
        loop.road(0, 3, 1);
        e.ways("not through a ring at a, back to a", loop, loop.paths(0, 3, false), 8);
        e.ways("to a ring, either way", loop, loop.paths(3, 2, false), 12, 11);
        WayBook bow = Nets.bow();
        e.ways("not through the middle twice", bow, bow.paths(0, 1, false), 6, 1);

        e.promise(8, "BAD: POSTS,");
        for (int posts : new int[] {2, 3, 8}) {
            e.range("a of " + posts, 0, posts - 1, () -> Nets.chain(posts),
                (b, a) -> b.paths(a, a == 0 ? 1 : 0, false), BAD);
            e.range("b of " + posts, 0, posts - 1, () -> Nets.chain(posts),
                (b, x) -> b.paths(x == 0 ? 1 : 0, x, true), BAD);
        }
        e.refused("no posts", WayBook::new, b -> b.paths(0, 1, false), BAD);
        e.refused("one post", () -> Nets.posts(1), b -> b.paths(0, 1, false), BAD);
        e.refused("one post, the other way", () -> Nets.posts(1), b -> b.paths(1, 0, false), BAD);
        e.refused("full, and no such post", () -> Nets.families(30), b -> b.paths(0, 3, false), BAD);

        e.promise(8, "a = b;");
        for (int p = 0; p < 8; p++) {
            int post = p;
            e.refused(p + " to " + p, () -> Nets.ring(8), b -> b.paths(post, post, false), BAD);
            e.is(p + " to the next", Nets.ring(8).paths(p, (p + 1) % 8, false), 0);
        }
        e.refused("full, and a = b", () -> Nets.families(30), b -> b.paths(1, 1, true), BAD);

        e.promise(8, "FULL.");
        e.full("paths(0, 1, false)", b -> b.paths(0, 1, false));
        e.full("paths(0, 1, true)", b -> b.paths(0, 1, true));
    }

    private static void pathsThrough(Edge e) {
        e.promise(8, "through true: through all POSTS.");
        WayBook two = Nets.chain(2);
        e.ways("two posts", two, two.paths(0, 1, true), 1);
        WayBook three = Nets.ring(3);
        e.ways("three posts", three, three.paths(0, 1, true), 6);
        e.ways("any", three, three.paths(0, 1, false), 6, 1);
        WayBook chain = Nets.chain(8);
        e.ways("eight posts", chain, chain.paths(0, 7, true), 127);
        e.ways("seven of eight", chain, chain.paths(0, 6, true));
        WayBook lone = Nets.chain(3);
        lone.post(1);
        e.ways("a post without roads", lone, lone.paths(0, 2, true));
    }

    private static void rounds(Edge e) {
        e.promise(9, "ROUNDS: WAYS that lead from a POST through others, none twice, back to it (three ROADS or more);");
        WayBook two = Nets.chain(2);
        e.ways("two posts", two, two.rounds(false));
        WayBook open = Nets.chain(8);
        e.ways("not back to it", open, open.rounds(false));
        for (int posts = 3; posts <= 8; posts++) {
            WayBook ring = Nets.ring(posts);
            e.ways("a ring of " + posts, ring, ring.rounds(false), (1 << posts) - 1);
        }
        WayBook bow = Nets.bow();
        e.ways("not through the middle twice", bow, bow.rounds(false), 56, 7);
        WayBook none = new WayBook();
        e.ways("no posts", none, none.rounds(false));

        e.promise(9, "FULL.");
        e.full("rounds(false)", b -> b.rounds(false));
        e.full("rounds(true)", b -> b.rounds(true));
    }

    private static void roundsThrough(Edge e) {
        e.promise(9, "through true: through all POSTS.");
        for (int posts = 3; posts <= 8; posts++) {
            WayBook ring = Nets.ring(posts);
            int all = (1 << posts) - 1;
            e.ways("all " + posts, ring, ring.rounds(true), all);
            if (posts < 8) {
                ring.post(1);
                e.ways("all but one", ring, ring.rounds(true));
                e.ways("any", ring, ring.rounds(false), all);
            }
        }
        for (int posts = 0; posts < 3; posts++) {
            WayBook few = Nets.chain(posts);
            e.ways(posts + " posts", few, few.rounds(true));
        }
        WayBook bow = Nets.bow();
        e.ways("each through three of five", bow, bow.rounds(true));
    }

    private static void trees(Edge e) {
        e.promise(10, "TREES: WAYS without a RING");
        WayBook b = Nets.ring(3);
        e.ways("a ring less one road", b, b.trees(1), 6, 5, 3);
        WayBook chain = Nets.chain(8);
        e.ways("seven roads", chain, chain.trees(1), 127);
        WayBook ring = Nets.ring(8);
        e.is("a ring of eight less one road", ring.count(ring.trees(1)), 8);
        e.is("not with it", ring.has(0, 255), 0);

        e.promise(10, "with just so many HEAPS.");
        WayBook c = Nets.chain(3);
        e.ways("one", c, c.trees(1), 3);
        e.ways("two", c, c.trees(2), 2, 1);
        e.ways("three", c, c.trees(3), 0);
        WayBook bare = Nets.posts(8);
        e.ways("eight of eight", bare, bare.trees(8), 0);
        e.ways("seven of eight", bare, bare.trees(7));
        e.ways("one of eight", bare, bare.trees(1));

        e.promise(10, "BAD: heaps not 1 .. how many POSTS there are;");
        for (int n = 0; n <= 8; n++) {
            int posts = n;
            e.range("heaps of " + n, 1, n, () -> Nets.posts(posts), WayBook::trees, BAD);
        }
        e.refused("full, 0 heaps", () -> Nets.families(30), x -> x.trees(0), BAD);
        e.refused("full, 4 heaps of 3", () -> Nets.families(30), x -> x.trees(4), BAD);

        e.promise(10, "FULL.");
        e.full("trees(1)", x -> x.trees(1));
        e.full("trees(3)", x -> x.trees(3));
    }

    private static void pairs(Edge e) {
        e.promise(11, "PAIRS: WAYS with at most one ROAD AT each POST;");
        WayBook c = Nets.chain(4);
        e.ways("not two at one", c, c.pairs(false), 0, 4, 2, 1, 5);
        WayBook star = Nets.stars(1);
        int f = star.pairs(false);
        e.is("one at the middle", star.has(f, 64), 1);
        e.is("two at the middle", star.has(f, 96), 0);
        e.is("one at each middle", star.has(f, 64 | 128), 1);
        e.is("two at an end", star.has(f, 2 | 128), 0);
        WayBook bare = Nets.posts(8);
        e.ways("no roads", bare, bare.pairs(false), 0);

        e.promise(11, "all true: just one.");
        for (int posts = 1; posts <= 8; posts++) {
            WayBook chain = Nets.chain(posts);
            int every = chain.pairs(true);
            e.is("a chain of " + posts, chain.count(every), 1 - posts % 2);
            if (posts % 2 == 0) {
                e.is("every other road", chain.way(every, 0), 0b1010101 & ((1 << (posts - 1)) - 1));
            }
        }
        WayBook ring = Nets.ring(4);
        e.ways("a ring of four", ring, ring.pairs(true), 10, 5);
        ring.post(1);
        e.ways("a fifth without roads", ring, ring.pairs(true));

        e.promise(11, "FULL.");
        e.full("pairs(false)", b -> b.pairs(false));
        e.full("pairs(true)", b -> b.pairs(true));
    }

    private static void parts(Edge e) {
        e.promise(12, "PARTS: WAYS with just so many HEAPS,");
        WayBook c = Nets.chain(3);
        e.ways("one", c, c.parts(1, 0, 99), 3);
        e.ways("two", c, c.parts(2, 0, 99), 2, 1);
        e.ways("three", c, c.parts(3, 0, 99), 0);
        WayBook bare = Nets.posts(8);
        e.ways("eight of eight", bare, bare.parts(8, 0, 99), 0);
        e.ways("seven of eight", bare, bare.parts(7, 0, 99));

        e.promise(12, "that have all ROADS between POSTS of one HEAP,");
        WayBook ring = Nets.ring(3);
        e.ways("three of three", ring, ring.parts(1, 0, 99), 7);
        e.ways("one of one", ring, ring.parts(2, 0, 99), 4, 2, 1);
        WayBook bow = Nets.bow();
        int f = bow.parts(1, 0, 99);
        e.ways("all six", bow, f, 63);
        e.is("five of six", bow.has(f, 31), 0);
        int two = bow.parts(2, 0, 99);
        e.is("a ring's three and one of three", bow.has(two, 7 | 16), 1);
        e.is("a ring's three and two of three", bow.has(two, 7 | 24), 0);
        e.is("two of a ring's three and one of three", bow.has(two, 6 | 16), 0);
        WayBook cube = Nets.cube();
        e.ways("twelve of twelve", cube, cube.parts(1, 0, 99), 4095);
        for (WayBook b : Nets.ringsOfFour()) {
            e.ways("four of four, in any order", b, b.parts(1, 0, 99), 15);
            e.is("one or two of four, in any order", b.count(b.parts(2, 0, 99)), 4 + 2);
        }

        e.promise(12, "BAD: heaps not 1 .. how many POSTS;");
        for (int n = 0; n <= 8; n++) {
            int posts = n;
            e.range("heaps of " + n, 1, n, () -> Nets.posts(posts), (b, heaps) -> b.parts(heaps, 0, 99), BAD);
        }
        e.refused("low above high, and 0 heaps", Nets::rich, b -> b.parts(0, 9, 0), BAD);
        e.refused("full, and 4 heaps of 3", () -> Nets.families(30), b -> b.parts(4, 0, 99), BAD);

        e.promise(12, "FULL.");
        e.full("parts(1, 0, 99)", b -> b.parts(1, 0, 99));
        e.full("parts(3, 9, 0)", b -> b.parts(3, 9, 0));
    }

    private static WayBook loaded(int... loads) {
        WayBook b = new WayBook();
        for (int load : loads) {
            b.post(load);
        }
        for (int p = 1; p < loads.length; p++) {
            b.road(p - 1, p, 0);
        }
        return b;
    }

    private static void partsLoads(Edge e) {
        e.promise(12, "each HEAP's LOADS being low .. high together.");
        WayBook b = loaded(2, 3);
        e.ways("5 .. 5", b, b.parts(1, 5, 5), 1);
        e.ways("6 .. 6", b, b.parts(1, 6, 6));
        e.ways("4 .. 4", b, b.parts(1, 4, 4));
        e.ways("4 .. 5", b, b.parts(1, 4, 5), 1);
        e.ways("5 .. 6", b, b.parts(1, 5, 6), 1);
        e.ways("up to 4", b, b.parts(1, MIN, 4));
        e.ways("from 6 on", b, b.parts(1, 6, MAX));
        e.ways("any", b, b.parts(1, MIN, MAX), 1);
        e.ways("each of two, 2 .. 3", b, b.parts(2, 2, 3), 0);
        e.ways("not the greater one", b, b.parts(2, 2, 2));
        e.ways("not the lesser one", b, b.parts(2, 3, 3));
        for (WayBook ring : Nets.ringsOfFour()) {
            e.is("each of two of a ring, 5 .. 5", ring.count(ring.parts(2, 5, 5)), 1);
            e.is("6 .. 5", ring.count(ring.parts(2, 6, 5)), 0);
            e.is("4 .. 6", ring.count(ring.parts(2, 4, 6)), 2);
            e.is("3 .. 7", ring.count(ring.parts(2, 3, 7)), 4);
            e.is("2 .. 8", ring.count(ring.parts(2, 2, 8)), 5);
            e.is("1 .. 9", ring.count(ring.parts(2, 1, 9)), 6);
            e.is("1 .. 8", ring.count(ring.parts(2, 1, 8)), 5);
            e.is("each of three, 3 .. 4", ring.count(ring.parts(3, 3, 4)), 1);
            e.is("3 .. 3", ring.count(ring.parts(3, 3, 3)), 0);
            e.is("4 .. 4", ring.count(ring.parts(3, 4, 4)), 0);
            e.is("2 .. 5", ring.count(ring.parts(3, 2, 5)), 2);
            e.is("1 .. 5", ring.count(ring.parts(3, 1, 5)), 3);
            e.is("1 .. 6", ring.count(ring.parts(3, 1, 6)), 3);
            e.is("1 .. 7", ring.count(ring.parts(3, 1, 7)), 4);
        }
        WayBook most = loaded(99, 99, 99, 99, 99, 99, 99, 99);
        e.ways("792 is the most", most, most.parts(1, 792, 792), 127);
        e.ways("not 793", most, most.parts(1, 793, MAX));
        e.ways("not 791", most, most.parts(1, MIN, 791));
        WayBook none = loaded(0, 0);
        e.ways("0 is the least", none, none.parts(1, 0, 0), 1);
        e.ways("not 1", none, none.parts(1, 1, MAX));
        e.ways("not -1", none, none.parts(1, MIN, -1));
    }

    private static void degrees(Edge e) {
        e.promise(13, "The WAYS of f with low .. high ROADS AT a POST");
        WayBook b = Nets.ring(3); // ROADS 0 and 2 are at POST 0
        int f = b.all(7);
        e.ways("0 .. 0", b, b.degrees(f, 0, 0, 0), 0, 2);
        e.ways("1 .. 1", b, b.degrees(f, 0, 1, 1), 4, 6, 1, 3);
        e.ways("2 .. 2", b, b.degrees(f, 0, 2, 2), 5, 7);
        e.ways("3 .. 3", b, b.degrees(f, 0, 3, 3));
        e.ways("-1 .. -1", b, b.degrees(f, 0, -1, -1));
        e.ways("1 .. 2", b, b.degrees(f, 0, 1, 2), 4, 6, 1, 5, 3, 7);
        e.ways("0 .. 1", b, b.degrees(f, 0, 0, 1), 0, 4, 2, 6, 1, 3);
        e.ways("3 and more", b, b.degrees(f, 0, 3, MAX));
        e.ways("less than 0", b, b.degrees(f, 0, MIN, -1));
        e.is("any", b.count(b.degrees(f, 0, MIN, MAX)), 8);
        e.ways("the last post", b, b.degrees(f, 2, 2, 2), 6, 7);
        e.ways("of none", b, b.degrees(b.tell(-1), 0, MIN, MAX));
        e.ways("of the bare way", b, b.degrees(b.tell(0), 0, 0, 0), 0);
        WayBook all = cubeWithAll();
        for (int post = 0; post < 8; post++) {
            int three = all.degrees(0, post, 3, 3);
            e.is("three at post " + post + " of the cube", all.count(three), 512);
            e.is("the last way of all", all.has(three, 4095), 1);
        }
        int before = b.tell(5);
        b.close();
        e.ways("a road that went is at no post", b, b.degrees(before, 0, 1, 1), 5);

        e.promise(13, "(KIND 0).");
        for (int kind = 0; kind < 6; kind++) {
            WayBook c = Nets.rich();
            e.is("of kind " + kind, c.told(c.degrees(kind, 0, 0, 9), 0), 0);
        }

        e.promise(13, "BAD;");
        e.families("degrees", Nets::rich, (c, g) -> c.degrees(g, 0, 0, 9), BAD);
        e.families("degrees of none", () -> Nets.posts(8), (c, g) -> c.degrees(g, 0, 0, 9), BAD);
        e.range("post of three", 0, 2, Nets::rich, (c, post) -> c.degrees(0, post, 0, 9), BAD);
        e.range("post of eight", 0, 7, MadeEdges::cubeWithAll, (c, post) -> c.degrees(0, post, 0, 9), BAD);
        e.range("post of none", 0, -1, MadeEdges::bareWithAll, (c, post) -> c.degrees(0, post, 0, 9), BAD);
        e.refused("full, and no such family", () -> Nets.families(30), c -> c.degrees(30, 0, 0, 9), BAD);
        e.refused("full, and no such post", () -> Nets.families(30), c -> c.degrees(0, 3, 0, 9), BAD);

        e.promise(13, "FULL.");
        e.full("degrees(0, 0, 0, 9)", c -> c.degrees(0, 0, 0, 9));
    }

    private static WayBook cubeWithAll() {
        WayBook b = Nets.cube();
        b.all(4095);
        return b;
    }

    private static WayBook bareWithAll() {
        WayBook b = new WayBook();
        b.all(0);
        return b;
    }
}
