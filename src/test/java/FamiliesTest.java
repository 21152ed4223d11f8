/** Promises 6 to 17: FAMILIES made. */
public final class FamiliesTest {
    private static final Due DUE = new Due("FamiliesTest");
    private static final int BAD = -2, STATE = -3, FULL = -4;
    private static final int MIN = Integer.MIN_VALUE, MAX = Integer.MAX_VALUE;

    public static void main(String[] args) {
        tell();
        all();
        paths();
        rounds();
        trees();
        pairs();
        parts();
        degrees();
        joinSets();
        joinProducts();
        joinHolding();
        joinFar();
        thin();
        thinHitting();
        by();
        within();
        full();
        cube();
        DUE.end();
    }

    private static void tell() {
        DUE.promise(6, "tell");
        WayBook b = Nets.complete(3);
        DUE.is("tell(5)", b.tell(5), 0);
        DUE.ways("tell(5)", b, 0, 5);
        DUE.is("kind", b.told(0, 0), 0);
        DUE.is("tell(-1)", b.tell(-1), 1);
        DUE.ways("tell(-1)", b, 1);
        DUE.is("tell(0)", b.tell(0), 2);
        DUE.ways("tell(0)", b, 2, 0);
        DUE.is("tell(7)", b.tell(7), 3);
        DUE.is("tell(8)", b.tell(8), BAD);
        DUE.is("tell(9)", b.tell(9), BAD);
        DUE.is("tell(-2)", b.tell(-2), BAD);
        DUE.is("tell(MIN)", b.tell(MIN), BAD);
        DUE.is("tell(MAX)", b.tell(MAX), BAD);
        DUE.is("tell(4096)", b.tell(4096), BAD);
        DUE.is("nothing was made", b.there(2), 4);
        b.close();
        DUE.is("closed", b.tell(4), BAD);
        DUE.ways("stays", b, 0, 5);
        DUE.is("without roads", new WayBook().tell(0), 0);
        DUE.is("without roads, 1", new WayBook().tell(1), BAD);
    }

    private static void all() {
        DUE.promise(7, "all");
        WayBook b = Nets.complete(3);
        DUE.is("all(5)", b.all(5), 0);
        DUE.ways("all(5)", b, 0, 0, 4, 1, 5);
        DUE.is("kind", b.told(0, 0), 0);
        DUE.is("all(0)", b.all(0), 1);
        DUE.ways("all(0)", b, 1, 0);
        DUE.ways("all(7)", b, b.all(7), 0, 4, 2, 6, 1, 5, 3, 7);
        DUE.is("all(8)", b.all(8), BAD);
        DUE.is("all(-1)", b.all(-1), BAD);
        DUE.is("all(MIN)", b.all(MIN), BAD);
        WayBook c = Nets.cube();
        DUE.is("all of twelve", c.count(c.all(4095)), 4096);
        DUE.is("4096 of twelve", c.all(4096), BAD);
        DUE.is("-1 of twelve", c.all(-1), BAD);
    }

    private static void paths() {
        DUE.promise(8, "paths");
        WayBook b = Nets.complete(4); // 0: 01, 1: 02, 2: 03, 3: 12, 4: 13, 5: 23
        DUE.is("paths(0, 1)", b.paths(0, 1, false), 0);
        DUE.ways("paths(0, 1)", b, 0, 20, 44, 50, 10, 1);
        DUE.is("kind", b.told(0, 0), 1);
        DUE.ways("through", b, b.paths(0, 1, true), 44, 50);
        DUE.is("the other way", b.same(0, b.paths(1, 0, false)), 1);
        DUE.is("a = b", b.paths(1, 1, false), BAD);
        DUE.is("a none such", b.paths(4, 1, false), BAD);
        DUE.is("b none such", b.paths(1, 4, false), BAD);
        DUE.is("a below 0", b.paths(-1, 1, false), BAD);
        DUE.is("b below 0", b.paths(1, -1, true), BAD);
        WayBook c = Nets.posts(3);
        c.road(0, 1, 1);
        DUE.ways("no way", c, c.paths(0, 2, false));
        DUE.ways("one road", c, c.paths(1, 0, false), 1);
        DUE.ways("not through all", c, c.paths(1, 0, true));
        WayBook two = Nets.posts(2);
        two.road(0, 1, 1);
        DUE.ways("through both", two, two.paths(0, 1, true), 1);
    }

    private static void rounds() {
        DUE.promise(9, "rounds");
        WayBook b = Nets.complete(4);
        DUE.is("rounds", b.rounds(false), 0);
        DUE.ways("rounds", b, 0, 56, 38, 30, 21, 45, 51, 11);
        DUE.is("kind", b.told(0, 0), 2);
        DUE.is("through", b.rounds(true), 1);
        DUE.ways("through", b, 1, 30, 45, 51);
        WayBook two = Nets.posts(2);
        two.road(0, 1, 1);
        DUE.ways("there and back is none", two, two.rounds(false));
        DUE.ways("through both is none", two, two.rounds(true));
        WayBook three = Nets.complete(3);
        DUE.ways("through three", three, three.rounds(true), 7);
        WayBook none = new WayBook();
        DUE.ways("without posts", none, none.rounds(false));
        DUE.ways("through no posts", none, none.rounds(true));
        WayBook apart = Nets.posts(7);
        int[] ends = {0, 1, 1, 2, 0, 2, 3, 4, 4, 5, 3, 5};
        for (int i = 0; i < ends.length; i += 2) {
            apart.road(ends[i], ends[i + 1], 0);
        }
        DUE.ways("two apart are two", apart, apart.rounds(false), 56, 7);
        DUE.ways("not through the seventh post", apart, apart.rounds(true));
    }

    private static void trees() {
        DUE.promise(10, "trees");
        WayBook b = Nets.complete(4);
        DUE.is("trees(1)", b.trees(1), 0);
        DUE.is("kind", b.told(0, 0), 3);
        DUE.is("1 heap", b.count(0), 16);
        DUE.is("2 heaps", b.count(b.trees(2)), 15);
        DUE.ways("3 heaps", b, b.trees(3), 32, 16, 8, 4, 2, 1);
        DUE.ways("4 heaps", b, b.trees(4), 0);
        DUE.is("a ring is no tree", b.has(0, 11), 0);
        DUE.is("a star is one", b.has(0, 7), 1);
        DUE.is("0 heaps", b.trees(0), BAD);
        DUE.is("5 heaps", b.trees(5), BAD);
        DUE.is("-1 heaps", b.trees(-1), BAD);
        DUE.is("MIN heaps", b.trees(MIN), BAD);
        WayBook none = new WayBook();
        DUE.is("no posts, 0", none.trees(0), BAD);
        DUE.is("no posts, 1", none.trees(1), BAD);
        WayBook lone = Nets.posts(3);
        lone.road(0, 1, 0);
        DUE.ways("a post without roads is a heap", lone, lone.trees(2), 1);
        DUE.ways("one heap can't be", lone, lone.trees(1));
    }

    private static void pairs() {
        DUE.promise(11, "pairs");
        WayBook b = Nets.complete(4);
        DUE.is("pairs(false)", b.pairs(false), 0);
        DUE.ways("pairs(false)", b, 0, 0, 32, 16, 8, 4, 12, 2, 18, 1, 33);
        DUE.is("kind", b.told(0, 0), 4);
        DUE.ways("pairs(true)", b, b.pairs(true), 12, 18, 33);
        WayBook three = Nets.complete(3);
        DUE.ways("three posts can't all pair", three, three.pairs(true));
        WayBook none = new WayBook();
        DUE.ways("without posts, all", none, none.pairs(true), 0);
        DUE.ways("without posts", none, none.pairs(false), 0);
        WayBook lone = Nets.posts(1);
        DUE.ways("a post without roads", lone, lone.pairs(true));
        DUE.ways("a post without roads pairs not", lone, lone.pairs(false), 0);
    }

    private static void parts() {
        DUE.promise(12, "parts");
        WayBook b = Nets.complete(4); // LOADS 1, 2, 3, 4
        DUE.is("parts(2)", b.parts(2, 0, 99), 0);
        DUE.ways("parts(2)", b, 0, 56, 12, 18, 38, 33, 21, 11);
        DUE.is("kind", b.told(0, 0), 5);
        DUE.ways("loads 5 .. 5", b, b.parts(2, 5, 5), 12);
        DUE.ways("loads 4 .. 6", b, b.parts(2, 4, 6), 12, 18, 11);
        DUE.ways("loads 3 .. 6: none of 3 and 7", b, b.parts(2, 3, 6), 12, 18, 11);
        DUE.ways("loads 3 .. 7", b, b.parts(2, 3, 7), 12, 18, 33, 21, 11);
        DUE.ways("low above high", b, b.parts(2, 6, 4));
        DUE.ways("one heap", b, b.parts(1, 10, 10), 63);
        DUE.ways("one heap, too low", b, b.parts(1, 11, MAX));
        DUE.ways("one heap, any", b, b.parts(1, MIN, MAX), 63);
        DUE.ways("four heaps", b, b.parts(4, 1, 4), 0);
        DUE.is("three heaps", b.count(b.parts(3, 0, 99)), 6);
        DUE.is("0 heaps", b.parts(0, 0, 99), BAD);
        DUE.is("5 heaps", b.parts(5, 0, 99), BAD);
        DUE.is("-1 heaps", b.parts(-1, 0, 99), BAD);
        DUE.is("no posts", new WayBook().parts(0, 0, 99), BAD);
        WayBook ring = Nets.ring(4);
        DUE.ways("a heap hangs together", ring, ring.parts(2, 0, 99), 12, 10, 6, 9, 5, 3);
        DUE.ways("all roads of a heap", ring, ring.parts(1, 0, 99), 15);
    }

    private static void degrees() {
        DUE.promise(13, "degrees");
        WayBook b = Nets.complete(3); // 0: 01, 1: 02, 2: 12
        b.all(7);
        DUE.is("degrees", b.degrees(0, 0, 1, 1), 1);
        DUE.ways("just one at 0", b, 1, 2, 6, 1, 5);
        DUE.is("kind", b.told(1, 0), 0);
        DUE.ways("two at 1", b, b.degrees(0, 1, 2, 2), 5, 7);
        DUE.ways("none at 2", b, b.degrees(0, 2, 0, 0), 0, 1);
        DUE.ways("0 .. 1 at 2", b, b.degrees(0, 2, 0, 1), 0, 4, 2, 1, 5, 3);
        DUE.is("any", b.count(b.degrees(0, 2, MIN, MAX)), 8);
        DUE.ways("low above high", b, b.degrees(0, 0, 2, 1));
        DUE.ways("of one way", b, b.degrees(b.tell(2), 0, 0, 9), 2);
        DUE.is("no such family", b.degrees(20, 0, 0, 9), BAD);
        DUE.is("family -1", b.degrees(-1, 0, 0, 9), BAD);
        DUE.is("no such post", b.degrees(0, 3, 0, 9), BAD);
        DUE.is("post -1", b.degrees(0, -1, 0, 9), BAD);
        b.trees(1);
        int trees = b.there(2) - 1;
        DUE.is("of trees it is a family", b.told(b.degrees(trees, 0, 0, 9), 0), 0);
        b.close();
        DUE.ways("a closed road is at no post", b, b.degrees(0, 2, 1, 1), 2, 6, 3, 7);
        WayBook c = Nets.cube();
        int all = c.all(4095);
        for (int post = 0; post < 8; post++) {
            DUE.is("all three at " + post, c.count(c.degrees(all, post, 3, 3)), 512);
            DUE.is("none at " + post, c.count(c.degrees(all, post, 0, 0)), 512);
            c.drop();
            c.drop();
        }
    }

    private static void joinSets() {
        DUE.promise(14, "join 0 to 2");
        WayBook b = Nets.complete(3);
        int f = b.all(3);
        int g = b.all(6);
        DUE.is("join", b.join(0, f, g), 2);
        DUE.ways("both", b, 2, 0, 2);
        DUE.ways("either", b, b.join(1, f, g), 0, 4, 2, 6, 1, 3);
        DUE.ways("first alone", b, b.join(2, f, g), 1, 3);
        DUE.ways("second alone", b, b.join(2, g, f), 4, 6);
        int trees = b.trees(1);
        for (int how = 0; how < 8; how++) {
            DUE.is("kind of " + how, b.told(b.join(how, trees, trees), 0), 0);
        }
        DUE.is("how -1", b.join(-1, f, g), BAD);
        DUE.is("how 8", b.join(8, f, g), BAD);
        DUE.is("f -1", b.join(0, -1, g), BAD);
        DUE.is("g -1", b.join(0, f, -1), BAD);
        DUE.is("f none such", b.join(0, 25, g), BAD);
        DUE.is("g none such", b.join(0, f, 25), BAD);
    }

    private static void joinProducts() {
        DUE.promise(14, "join 3 to 5");
        WayBook b = Nets.complete(4);
        int f = Nets.family(b, 1, 2);
        int g = Nets.family(b, 2, 12);
        DUE.ways("unions", b, b.join(3, f, g), 2, 14, 13, 3);
        int none = b.tell(-1);
        int bare = b.tell(0);
        DUE.ways("unions with none", b, b.join(3, f, none));
        DUE.ways("unions with the bare way", b, b.join(3, f, bare), 2, 1);
        DUE.ways("over the bare way", b, b.join(4, f, bare), 2, 1);
        DUE.ways("none over", b, b.join(4, none, g));
        DUE.ways("left without what is over the bare way", b, b.join(5, f, bare));
        DUE.is("over none", b.join(4, f, none), STATE);
        DUE.is("left over none", b.join(5, f, none), STATE);
        DUE.is("unions of none are fine", b.count(b.join(3, none, none)), 0);
        DUE.is("over none, no such family", b.join(4, 29, none), BAD);
        WayBook c = Nets.complete(4);
        int h = Nets.family(c, 5, 6, 9, 10, 8); // {0,2} {1,2} {0,3} {1,3} {3}
        int twos = Nets.family(c, 1, 2);
        int over = c.join(4, h, twos);
        DUE.ways("over", c, over, 8, 4);
        DUE.ways("left", c, c.join(5, h, twos), 8);
        DUE.ways("over itself", c, c.join(4, twos, twos), 0);
        WayBook d = Nets.complete(3);
        int some = d.by(2, d.by(2, d.tell(1), 11), 10);
        DUE.ways("roads that there are not", d, some, 3073);
        DUE.ways("over, with such", d, d.join(4, some, d.tell(1)), 3072);
        DUE.ways("shares one", d, d.join(4, d.all(1), d.all(1)), 0);
        WayBook e = Nets.complete(3);
        int all = e.all(7);
        DUE.ways("left of all", e, e.join(5, all, e.tell(1)), 0, 4, 2, 6);
        int few = Nets.family(e, 1, 2, 3, 5, 6, 7);
        DUE.ways("left of few", e, e.join(5, few, Nets.family(e, 1, 2)), 3, 7);
    }

    /** The ROADS 0 and 11 are the ends of THE ORDER. */
    private static void joinFar() {
        DUE.promise(14, "join with all twelve roads");
        WayBook b = Nets.cube();
        int all = b.all(4095);
        int last = b.tell(4095);
        int far = Nets.family(b, 2048, 1);
        DUE.ways("unions", b, b.join(3, far, Nets.family(b, 2048, 2)), 2048, 2050, 2049, 3);
        DUE.ways("unions with the greatest", b, b.join(3, all, last), 4095);
        DUE.is("unions of all", b.same(b.join(3, all, all), all), 1);
        int over = b.join(4, all, b.tell(2048));
        DUE.is("all over 11", b.count(over), 2048);
        DUE.is("the greatest of them", b.has(over, 2047), 1);
        DUE.is("none with 11", b.often(over, 11), 0);
        int one = Nets.family(b, 2049, 2050, 3);
        DUE.ways("some over 11", b, b.join(4, one, b.tell(2048)), 2, 1);
        DUE.ways("some over 0", b, b.join(4, one, b.tell(1)), 2048, 2);
        DUE.ways("left over 11", b, b.join(5, one, b.tell(2048)), 3);
        WayBook c = Nets.cube();
        all = c.all(4095);
        DUE.is("all over all", c.count(c.join(4, all, all)), 1);
        DUE.is("that hold 11", c.count(c.join(6, all, c.tell(2048))), 2048);
        DUE.ways("held by 0 and 11", c, c.join(7, all, c.tell(2049)), 0, 2048, 1, 2049);
    }

    private static void joinHolding() {
        DUE.promise(14, "join 6 and 7");
        WayBook b = Nets.complete(3);
        int all = b.all(7);
        int g = Nets.family(b, 3, 4);
        DUE.ways("hold", b, b.join(6, all, g), 4, 6, 5, 3, 7);
        DUE.ways("held", b, b.join(7, all, g), 0, 4, 2, 1, 3);
        int none = b.tell(-1);
        DUE.ways("hold none", b, b.join(6, all, none));
        DUE.ways("held by none", b, b.join(7, all, none));
        DUE.is("hold the bare way", b.count(b.join(6, all, b.tell(0))), 8);
        DUE.ways("just those of f", b, b.join(6, b.tell(5), g), 5);
        DUE.ways("just those of f", b, b.join(7, b.tell(5), g));
    }

    private static void thin() {
        DUE.promise(15, "thin 0 and 1");
        WayBook b = Nets.complete(4);
        int f = Nets.family(b, 1, 3, 6, 14, 48);
        DUE.ways("least", b, b.thin(0, f), 48, 6, 1);
        DUE.ways("greatest", b, b.thin(1, f), 48, 14, 3);
        DUE.is("kind", b.told(b.thin(0, b.trees(1)), 0), 0);
        DUE.is("how 3", b.thin(3, f), BAD);
        DUE.is("how -1", b.thin(-1, f), BAD);
        DUE.is("no such family", b.thin(0, 29), BAD);
        DUE.is("family -1", b.thin(2, -1), BAD);
        DUE.ways("none, least", b, b.thin(0, b.tell(-1)));
        DUE.ways("bare, greatest", b, b.thin(1, b.tell(0)), 0);
        WayBook c = Nets.cube();
        int apart = Nets.family(c, 1, 7, 15, 2, 58);
        DUE.ways("least, further apart", c, c.thin(0, apart), 2, 1);
        DUE.ways("greatest, further apart", c, c.thin(1, apart), 58, 15);
        int all = c.all(4095);
        DUE.ways("all, least", c, c.thin(0, all), 0);
        DUE.ways("all, greatest", c, c.thin(1, all), 4095);
    }

    private static void thinHitting() {
        DUE.promise(15, "thin 2");
        WayBook b = Nets.complete(4);
        int f = Nets.family(b, 3, 6, 8);
        DUE.ways("hits", b, b.thin(2, f), 10, 13);
        DUE.ways("of none", b, b.thin(2, b.tell(-1)), 0);
        DUE.ways("of the bare way", b, b.thin(2, b.tell(0)));
        DUE.ways("of all", b, b.thin(2, b.all(3)));
        WayBook k = Nets.complete(4);
        int trees = k.trees(1);
        int cuts = k.thin(2, trees);
        DUE.is("seven cuts", k.count(cuts), 7);
        DUE.is("twice is the least ones", k.same(k.thin(2, cuts), trees), 1);
        int closed = k.tell(32);
        int open = k.tell(16);
        k.close();
        DUE.is("a closed road", k.thin(2, closed), STATE);
        DUE.is("a closed road among others", k.thin(2, trees), STATE);
        DUE.ways("an open one", k, k.thin(2, open), 16);
        DUE.ways("least ones are told still", k, k.thin(0, closed), 32);
        DUE.is("a road that never was", k.thin(2, k.by(2, open, 11)), STATE);
        DUE.is("bad how, closed", k.thin(3, closed), BAD);
        WayBook c = Nets.cube();
        DUE.ways("hits with 11", c, c.thin(2, Nets.family(c, 2049, 2)), 2050, 3);
        DUE.ways("each of twelve", c, c.thin(2, c.tell(4095)), 2048, 1024, 512, 256, 128, 64, 32, 16, 8, 4, 2, 1);
        DUE.ways("all of twelve", c, c.thin(2, c.thin(2, c.tell(4095))), 4095);
    }

    private static void by() {
        DUE.promise(16, "by");
        WayBook b = Nets.complete(3);
        int f = Nets.family(b, 1, 3, 4);
        DUE.ways("without 1", b, b.by(0, f, 1), 4, 1);
        DUE.ways("with 1", b, b.by(1, f, 1), 3);
        DUE.ways("turned at 1", b, b.by(2, f, 1), 6, 1, 3);
        DUE.ways("with 11", b, b.by(1, f, 11));
        DUE.ways("without 11", b, b.by(0, f, 11), 4, 1, 3);
        int far = b.by(2, f, 11);
        DUE.ways("turned at 11", b, far, 2052, 2049, 2051);
        DUE.ways("turned back", b, b.by(2, far, 11), 4, 1, 3);
        DUE.is("kind", b.told(b.by(0, b.trees(1), 0), 0), 0);
        DUE.is("how -1", b.by(-1, f, 0), BAD);
        DUE.is("how 3", b.by(3, f, 0), BAD);
        DUE.is("road -1", b.by(0, f, -1), BAD);
        DUE.is("road 12", b.by(0, f, 12), BAD);
        DUE.is("no such family", b.by(0, 29, 0), BAD);
        DUE.is("family -1", b.by(0, -1, 0), BAD);
        WayBook c = Nets.cube();
        int all = c.all(4095);
        for (int road = 0; road < 12; road++) {
            int with = c.by(1, all, road);
            DUE.is("half with " + road, c.often(with, road), 2048);
            int turned = c.by(2, with, road);
            DUE.is("turned, none with " + road, c.often(turned, road), 0);
            DUE.is("as many", c.count(turned), 2048);
            c.drop();
            c.drop();
        }
    }

    private static void within() {
        DUE.promise(17, "within");
        WayBook b = Nets.posts(3);
        b.road(0, 1, -50);
        b.road(1, 2, 50);
        b.road(0, 2, 7);
        b.all(7);
        DUE.is("within", b.within(0, 0, 7), 1);
        DUE.ways("0 .. 7", b, 1, 0, 4, 3, 7);
        DUE.is("kind", b.told(b.within(b.trees(1), 0, 0), 0), 0);
        DUE.ways("-50 .. -43", b, b.within(0, -50, -43), 1, 5);
        DUE.ways("-49 .. -43", b, b.within(0, -49, -43), 5);
        DUE.ways("57", b, b.within(0, 57, 57), 6);
        DUE.ways("low above high", b, b.within(0, 7, 0));
        DUE.ways("of one way", b, b.within(b.tell(2), -99, 99), 2);
        DUE.is("any", b.count(b.within(0, MIN, MAX)), 8);
        DUE.is("no such family", b.within(29, 0, 0), BAD);
        DUE.is("family -1", b.within(-1, 0, 0), BAD);
        b.close();
        DUE.ways("a closed road weighs 0", b, b.within(0, 50, 50), 2, 6);
        b.road(0, 2, -1);
        DUE.ways("a new one has its own", b, b.within(0, 49, 49), 6);
    }

    private static void full() {
        WayBook b = Nets.complete(3);
        int none = b.tell(-1);
        for (int f = 1; f < 30; f++) {
            DUE.promise(6, "tell");
            DUE.is("family " + f, b.tell(4), f);
        }
        DUE.is("tell(0)", b.tell(0), FULL);
        DUE.is("tell(-1)", b.tell(-1), FULL);
        DUE.is("bad tell", b.tell(8), BAD);
        DUE.promise(7, "all");
        DUE.is("all(1)", b.all(1), FULL);
        DUE.is("bad all", b.all(-1), BAD);
        DUE.promise(8, "paths");
        DUE.is("paths", b.paths(0, 1, false), FULL);
        DUE.is("bad paths", b.paths(0, 0, false), BAD);
        DUE.promise(9, "rounds");
        DUE.is("rounds", b.rounds(true), FULL);
        DUE.promise(10, "trees");
        DUE.is("trees", b.trees(1), FULL);
        DUE.is("bad trees", b.trees(0), BAD);
        DUE.promise(11, "pairs");
        DUE.is("pairs", b.pairs(false), FULL);
        DUE.promise(12, "parts");
        DUE.is("parts", b.parts(1, 0, 9), FULL);
        DUE.is("bad parts", b.parts(4, 0, 9), BAD);
        DUE.promise(13, "degrees");
        DUE.is("degrees", b.degrees(1, 0, 0, 9), FULL);
        DUE.is("bad degrees", b.degrees(30, 0, 0, 9), BAD);
        DUE.promise(14, "join");
        DUE.is("join", b.join(0, 1, 2), FULL);
        DUE.is("bad join", b.join(8, 1, 2), BAD);
        DUE.is("over none", b.join(4, 1, none), STATE);
        DUE.promise(15, "thin");
        DUE.is("thin", b.thin(2, 1), FULL);
        DUE.is("bad thin", b.thin(3, 1), BAD);
        b.close();
        DUE.is("closed thin", b.thin(2, 1), STATE);
        DUE.promise(16, "by");
        DUE.is("by", b.by(2, 1, 11), FULL);
        DUE.is("bad by", b.by(2, 1, 12), BAD);
        DUE.promise(17, "within");
        DUE.is("within", b.within(1, 0, 0), FULL);
        DUE.is("bad within", b.within(30, 0, 0), BAD);
        DUE.is("thirty still", b.there(2), 30);
        DUE.ways("the last stays", b, 29, 4);
    }

    /** The greatest net: 8 POSTS, 12 ROADS; how many is known of the cube. */
    private static void cube() {
        WayBook b = Nets.cube();
        DUE.promise(10, "trees");
        DUE.is("trees of the cube", b.count(b.trees(1)), 384);
        DUE.is("bare", b.count(b.trees(8)), 1);
        DUE.is("six without a ring fail", b.count(b.trees(6)), 66);
        DUE.promise(9, "rounds");
        DUE.is("rounds of the cube", b.count(b.rounds(false)), 28);
        DUE.is("through all", b.count(b.rounds(true)), 6);
        DUE.promise(11, "pairs");
        DUE.is("pairs of the cube", b.count(b.pairs(false)), 108);
        DUE.is("all paired", b.count(b.pairs(true)), 9);
        DUE.promise(8, "paths");
        DUE.is("through all to the next", b.count(b.paths(0, 1, true)), 6 * 8 / 12);
        DUE.is("through all to the far one", b.count(b.paths(0, 7, true)), 6);
        DUE.promise(12, "parts");
        DUE.is("one heap", b.count(b.parts(1, 36, 36)), 1);
        DUE.is("seven heaps", b.count(b.parts(7, 1, 99)), 12);
        DUE.is("eight heaps", b.count(b.parts(8, 1, 8)), 1);
    }
}
