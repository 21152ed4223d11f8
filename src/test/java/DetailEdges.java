/** The edges that 'Details' and 'What it is' name. */
final class DetailEdges {
    private static final int NONE = -1, BAD = -2;
    private static final int NOTHING = -11, OTHER = -13;
    private static final int MIN = Integer.MIN_VALUE, MAX = Integer.MAX_VALUE;
    private static final long SURE = 68719476736L; // 8 to the 12

    private DetailEdges() {
    }

    static void run(Edge e) {
        calls(e);
        withoutPosts(e);
        bareFirst(e);
        roundOnce(e);
        lowAboveHigh(e);
        overBare(e);
        thinOfNone(e);
        asTheyAreNow(e);
        goesOnHolding(e);
        wayMinusOne(e);
        ofTwelve(e);
        nNotLookedAt(e);
        missingForAny(e);
        rowOfThen(e);
    }

    private static void calls(Edge e) {
        e.about("An object is used for at most 512 calls after it has been made; what later calls answer is free.");
        WayBook b = new WayBook();
        for (int call = 1; call <= 170; call++) {
            e.is("tell, drop and there, " + call, b.tell(0) + b.drop() + b.there(2), 0);
        }
        e.is("call 511", b.post(7), 0);
        e.is("call 512", b.there(0), 1);
        WayBook full = new WayBook();
        for (int call = 1; call <= 511; call++) {
            full.rounds(false);
        }
        e.is("call 512 of a full one", full.there(2), 30);
        // One step further any answer will do, but there is one.
        e.isNot("call 513", full.there(2), MIN);
    }

    private static void withoutPosts(Edge e) {
        e.details("Without POSTS there are no HEAPS, and pairs(true) has the WAY without ROADS,");
        e.refused("no posts, 0 heaps", WayBook::new, b -> b.trees(0), BAD);
        e.refused("no posts, 1 heap", WayBook::new, b -> b.trees(1), BAD);
        e.refused("no posts, parts", WayBook::new, b -> b.parts(0, 0, 0), BAD);
        e.refused("no posts, parts of 1", WayBook::new, b -> b.parts(1, 0, 0), BAD);
        WayBook none = new WayBook();
        e.ways("no posts", none, none.pairs(true), 0);
        WayBook one = Nets.posts(1);
        e.ways("one post", one, one.pairs(true));
        e.ways("one post, one heap", one, one.trees(1), 0);
        WayBook two = Nets.posts(2);
        e.ways("two posts", two, two.pairs(true));
        two.road(0, 1, 0);
        e.ways("two posts and a road", two, two.pairs(true), 1);
    }

    private static void bareFirst(Edge e) {
        e.details("which comes first in THE ORDER.");
        WayBook b = Nets.stars(1);
        for (int road = 0; road < 12; road++) {
            WayBook c = Nets.stars(1);
            e.ways("ahead of " + road, c, Nets.family(c, 1 << road, 0), 0, 1 << road);
        }
        int all = b.all(4095);
        e.is("the first of all", b.way(all, 0), 0);
        e.is("none is ahead of it", b.rank(all, 0), 0);
        e.is("it is ahead of the second", b.rank(all, 2048), 1);
    }

    private static void roundOnce(Edge e) {
        e.details("Each ROUND is a set of ROADS, once.");
        WayBook ring = Nets.ring(8);
        e.is("a ring, from each post and either way", ring.count(ring.rounds(false)), 1);
        WayBook four = Nets.complete(4);
        e.is("four posts", four.count(four.rounds(false)), 4 + 3);
        WayBook cube = Nets.cube();
        e.is("the cube", cube.count(cube.rounds(false)), 6 + 16 + 6);
        WayBook five = Nets.complete(5);
        e.is("five posts", five.count(five.rounds(false)), 10 + 15 + 12);
    }

    private static void lowAboveHigh(Edge e) {
        e.details("low may be above high: then there are no WAYS.");
        WayBook b = Nets.rich();
        int[][] crossed = {{1, 0}, {2, 1}, {MAX, MIN}, {0, -1}, {4, 3}};
        for (int[] two : crossed) {
            e.ways("degrees", b, b.degrees(0, 0, two[0], two[1]));
            e.ways("within", b, b.within(0, two[0], two[1]));
            e.ways("parts", b, b.parts(2, two[0], two[1]));
        }
        e.ways("degrees, alike", b, b.degrees(3, 0, 2, 2), 3);
        e.ways("within, alike", b, b.within(0, 3, 3), 4, 3);
        e.ways("parts, alike", b, b.parts(2, 3, 3), 1);
    }

    private static void overBare(Edge e) {
        e.details("f OVER just the WAY without ROADS is f.");
        WayBook b = Nets.families(7);
        int bare = b.tell(0);
        for (int f = 0; f < 7; f++) {
            e.is("family " + f, b.same(b.join(4, f, bare), f), 1);
        }
        e.ways("bare over itself", b, b.join(4, bare, bare), 0);
        e.is("with one way more it is not", b.same(b.join(4, 0, b.all(4)), 0), 0);
        WayBook c = Nets.stars(1);
        int all = c.all(4095);
        e.is("all sets", c.same(c.join(4, all, c.tell(0)), all), 1);
    }

    private static void thinOfNone(Edge e) {
        e.details("thin(2, f) of a FAMILY without WAYS has the WAY without ROADS.");
        for (int roads : new int[] {0, 1, 12}) {
            WayBook b = Nets.starsOf(roads);
            e.ways("none, " + roads + " roads", b, b.thin(2, b.tell(-1)), 0);
            e.ways("just bare, " + roads + " roads", b, b.thin(2, b.tell(0)));
            e.ways("how 0", b, b.thin(0, 0));
            e.ways("how 1", b, b.thin(1, 0));
        }
    }

    private static void asTheyAreNow(Edge e) {
        e.details("WEIGHTS and odds are those that ROADS of these numbers have now.");
        WayBook b = Nets.chain(3);
        int f = b.tell(3);
        e.is("sum", b.total(f), 2);
        e.is("chance", b.chance(f), SURE / 4);
        b.odds(1, 8);
        e.is("chance by other odds", b.chance(f), SURE / 2);
        b.close();
        e.is("sum without", b.total(f), 1);
        e.is("chance without", b.chance(f), 0);
        b.road(0, 2, 40);
        e.is("sum with another one", b.total(f), 41);
        e.is("chance with another one", b.chance(f), SURE / 4);
        e.ways("within", b, b.within(f, 41, 41), 3);
        e.ways("within what was", b, b.within(f, 2, 2));
    }

    private static void goesOnHolding(Edge e) {
        e.details("A SHELF goes on holding a FAMILY that was dropped.");
        WayBook b = Nets.rich();
        b.shelf(4, 0, 5);
        b.shelf(3, 0, 4);
        b.drop();
        e.is("dropped", b.taken(4, 5), 3);
        e.is("not dropped", b.taken(3, 4), 4);
        e.is("it can't be put on a shelf", b.shelf(2, 0, 5), BAD);
        b.tell(-1);
        e.is("its number is another's now", b.taken(4, 5), 3);
        e.is("of its own kind", b.taken(4, 4), OTHER);
        for (int f = 0; f < 6; f++) {
            b.drop();
        }
        e.is("all dropped", b.taken(3, 4), 4);
        b.shelf(4, 2, 0);
        e.is("till it holds nothing", b.taken(4, 5), NOTHING);
    }

    private static void wayMinusOne(Edge e) {
        e.details("way(f, -1) is NONE.");
        for (int f = 0; f < 7; f++) {
            e.is("of family " + f, Nets.families(7).way(f, -1), NONE);
        }
        e.isNot("way 0", Nets.rich().way(0, 0), NONE);
        e.is("way -2", Nets.rich().way(0, -2), NONE);
        e.is("of no family", Nets.rich().way(6, -1), BAD);
    }

    private static void ofTwelve(Edge e) {
        e.details("chance() is of 8 to the 12, whatever ROADS there are.");
        for (int roads = 0; roads <= 12; roads++) {
            WayBook b = Nets.starsOf(roads);
            e.is("bare, " + roads + " roads", b.chance(b.tell(0)), SURE);
            e.is("none, " + roads + " roads", b.chance(b.tell(-1)), 0);
            if (roads > 0) {
                e.is("the first of " + roads, b.chance(b.tell(1)), SURE / 2);
                e.is("the last of " + roads, b.chance(b.tell(1 << (roads - 1))), SURE / 2);
                e.is("it matters", b.matters(b.there(2) - 1, roads - 1), SURE);
            }
            e.is("all of " + roads, b.chance(b.tell((1 << roads) - 1)), SURE >> roads);
        }
    }

    private static void nNotLookedAt(Edge e) {
        e.details("For sort -1 n is not looked at.");
        for (int n : new int[] {MIN, -1, 0, 1, 40, 41, MAX}) {
            WayBook b = Nets.rich();
            e.is("sheet(0, -1, " + n + ")", b.sheet(0, -1, n), 1);
            e.is("it is missing", b.cell(0, 0, 1), NOTHING);
            e.is("no such sheet, " + n, b.sheet(6, -1, n), BAD);
        }
        e.is("for sort 0 it is: 41", Nets.rich().sheet(0, 0, 41), BAD);
        e.is("for sort 0 it is: -1", Nets.rich().sheet(0, 0, -1), -14);
    }

    private static void missingForAny(Edge e) {
        e.details("A missing SHEET is -11 for any sort.");
        for (int each = 0; each < 3; each++) {
            int sort = each;
            for (int i : new int[] {MIN, -1, 0, 37, 38, MAX}) {
                e.refused("lay(5, " + sort + ", " + i + ")", Nets::rich, b -> b.lay(5, sort, i), NOTHING);
            }
        }
        e.is("a sort that is none", Nets.rich().lay(5, 3, 0), BAD);
        e.is("one that is there", Nets.rich().lay(1, 0, 0), OTHER);
    }

    private static void rowOfThen(Edge e) {
        e.details("shelf(.., 1, n) holds the row that SHEET n has then.");
        WayBook b = Nets.rich();
        b.sheet(1, 2, 9);
        e.is("the row of then: 4 shorts", b.taken(1, 7), 4);
        e.is("not 9 ints", b.taken(1, 8), OTHER);
        b.shelf(2, 1, 1);
        e.is("the row of now", b.taken(2, 8), 9);
        b.sheet(1, -1, 0);
        e.is("missing now: the row of then", b.taken(2, 8), 9);
        e.is("and the one before", b.taken(1, 7), 4);
        b.shelf(2, 1, 1);
        e.is("missing then", b.taken(2, 8), NOTHING);
        b.sheet(1, 2, 9);
        e.is("missing then, there now", b.taken(2, 8), NOTHING);
        b.sheet(1, 2, 8);
        b.shelf(2, 1, 1);
        b.sheet(1, 2, 7);
        e.is("another one of its sort", b.taken(2, 8), 8);
    }
}
