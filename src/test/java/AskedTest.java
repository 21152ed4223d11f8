/** Promises 20 to 32: what is asked of FAMILIES. */
public final class AskedTest {
    private static final Due DUE = new Due("AskedTest");
    private static final int NONE = -1, BAD = -2;
    private static final int MIN = Integer.MIN_VALUE, MAX = Integer.MAX_VALUE;
    private static final long SURE = 68719476736L; // 8 to the 12

    public static void main(String[] args) {
        count();
        told();
        total();
        often();
        has();
        way();
        rank();
        best();
        bestFarthest();
        draw();
        same();
        chance();
        matters();
        turned();
        DUE.end();
    }

    private static void count() {
        DUE.promise(20, "count");
        WayBook b = Nets.cube();
        b.all(4095);
        b.tell(-1);
        b.tell(0);
        DUE.is("all", b.count(0), 4096);
        DUE.is("none", b.count(1), 0);
        DUE.is("one", b.count(2), 1);
        DUE.is("no such", b.count(3), BAD);
        DUE.is("-1", b.count(-1), BAD);
        DUE.is("MIN", b.count(MIN), BAD);
        DUE.is("MAX", b.count(MAX), BAD);
        DUE.is("30", b.count(30), BAD);
    }

    private static void told() {
        DUE.promise(21, "told");
        WayBook b = Nets.complete(3);
        b.all(7);
        b.paths(0, 1, false);
        b.rounds(false);
        b.trees(1);
        b.pairs(false);
        b.parts(1, 0, 99);
        for (int kind = 0; kind < 6; kind++) {
            DUE.is("kind of " + kind, b.told(kind, 0), kind);
        }
        DUE.is("knots of all", b.told(0, 1), 3);
        DUE.is("knots of trees", b.told(3, 1), 4);
        DUE.is("knots of the round", b.told(2, 1), 3);
        DUE.is("knots of pairs", b.told(4, 1), 3);
        DUE.is("knots of the bare way", b.told(b.tell(0), 1), 0);
        DUE.is("knots without ways", b.told(b.tell(-1), 1), 0);
        DUE.is("bits of paths", b.told(1, 2), 7);
        DUE.is("bits of the bare way", b.told(6, 2), 0);
        DUE.is("bits without ways", b.told(7, 2), 0);
        DUE.is("bits of {0, 2}", b.told(b.tell(5), 2), 5);
        DUE.is("bits with 11", b.told(b.by(2, 8, 11), 2), 2053);
        DUE.is("what 3", b.told(0, 3), BAD);
        DUE.is("what -1", b.told(0, -1), BAD);
        DUE.is("no such", b.told(20, 0), BAD);
        DUE.is("-1", b.told(-1, 1), BAD);
        WayBook c = Nets.cube();
        DUE.is("knots of all of twelve", c.told(c.all(4095), 1), 12);
    }

    private static void total() {
        DUE.promise(22, "total");
        WayBook b = Nets.complete(3);
        b.trees(1);
        DUE.is("trees", b.total(0), 12);
        DUE.is("none", b.total(b.tell(-1)), 0);
        DUE.is("bare", b.total(b.tell(0)), 0);
        DUE.is("no such", b.total(3), 0);
        DUE.is("-1", b.total(-1), 0);
        DUE.is("a road that is none weighs 0", b.total(b.by(2, 0, 11)), 12);
        b.close();
        DUE.is("closed weighs 0", b.total(0), 6);
        b.road(1, 2, -50);
        DUE.is("a new one has its own", b.total(0), -94);
        WayBook c = Nets.stars(50);
        DUE.is("the greatest", c.total(c.all(4095)), 50L * 12 * 2048);
    }

    private static void often() {
        DUE.promise(23, "often");
        WayBook b = Nets.complete(4);
        b.trees(1);
        for (int road = 0; road < 6; road++) {
            DUE.is("each road of " + road, b.often(0, road), 8);
        }
        for (int road = 6; road < 12; road++) {
            DUE.is("no road " + road, b.often(0, road), 0);
        }
        DUE.is("road 12", b.often(0, 12), BAD);
        DUE.is("road -1", b.often(0, -1), BAD);
        DUE.is("no such", b.often(1, 0), BAD);
        DUE.is("-1", b.often(-1, 0), BAD);
        int f = Nets.family(b, 1, 3, 32);
        DUE.is("0 in two", b.often(f, 0), 2);
        DUE.is("1 in one", b.often(f, 1), 1);
        DUE.is("5 in one", b.often(f, 5), 1);
        b.close();
        DUE.is("a closed road still", b.often(f, 5), 1);
    }

    private static void has() {
        DUE.promise(24, "has");
        WayBook b = Nets.complete(3);
        b.trees(1);
        DUE.is("3", b.has(0, 3), 1);
        DUE.is("7", b.has(0, 7), 0);
        DUE.is("0", b.has(0, 0), 0);
        DUE.is("4096 + 3", b.has(0, 4099), 0);
        DUE.is("MAX", b.has(0, MAX), 0);
        DUE.is("-1", b.has(0, -1), BAD);
        DUE.is("MIN", b.has(0, MIN), BAD);
        DUE.is("no such", b.has(1, 3), BAD);
        DUE.is("family -1", b.has(-1, 3), BAD);
        DUE.is("bare", b.has(b.tell(0), 0), 1);
        DUE.is("bare, 4096", b.has(1, 4096), 0);
    }

    private static void way() {
        DUE.promise(25, "way");
        WayBook b = Nets.complete(3);
        b.trees(1);
        DUE.is("0", b.way(0, 0), 6);
        DUE.is("1", b.way(0, 1), 5);
        DUE.is("2", b.way(0, 2), 3);
        DUE.is("3", b.way(0, 3), NONE);
        DUE.is("-1", b.way(0, -1), NONE);
        DUE.is("MIN", b.way(0, MIN), NONE);
        DUE.is("MAX", b.way(0, MAX), NONE);
        DUE.is("no such", b.way(1, 0), BAD);
        DUE.is("family -1", b.way(-1, -1), BAD);
        DUE.is("without ways", b.way(b.tell(-1), 0), NONE);
        WayBook c = Nets.cube();
        c.all(4095);
        DUE.is("first of all", c.way(0, 0), 0);
        DUE.is("second of all", c.way(0, 1), 2048);
        DUE.is("third of all", c.way(0, 2), 1024);
        DUE.is("65th", c.way(0, 64), 32);
        DUE.is("half", c.way(0, 2048), 1);
        DUE.is("last", c.way(0, 4095), 4095);
        DUE.is("behind the last", c.way(0, 4096), NONE);
    }

    private static void rank() {
        DUE.promise(26, "rank");
        WayBook b = Nets.complete(3);
        b.trees(1);
        int[] masks = {0, 4, 6, 1, 5, 3, 7, 4095, 2048};
        int[] ranks = {0, 0, 0, 1, 1, 2, 3, 3, 0};
        for (int i = 0; i < masks.length; i++) {
            DUE.is("ahead of " + masks[i], b.rank(0, masks[i]), ranks[i]);
        }
        DUE.is("-1", b.rank(0, -1), BAD);
        DUE.is("4096", b.rank(0, 4096), BAD);
        DUE.is("MAX", b.rank(0, MAX), BAD);
        DUE.is("no such", b.rank(1, 0), BAD);
        DUE.is("family -1", b.rank(-1, 0), BAD);
        WayBook c = Nets.cube();
        c.all(4095);
        for (int i = 0; i < 4096; i += 273) {
            DUE.is("rank of way " + i, c.rank(0, c.way(0, i)), i);
        }
    }

    private static void best() {
        DUE.promise(27, "best");
        WayBook b = Nets.complete(3);
        b.trees(1);
        int[] greatest = {6, 5, 3, NONE};
        int[] least = {3, 5, 6, NONE};
        for (int i = 0; i < 4; i++) {
            DUE.is("greatest " + i, b.best(0, 0, i), greatest[i]);
            DUE.is("least " + i, b.best(0, 1, i), least[i]);
        }
        DUE.is("-1", b.best(0, 0, -1), NONE);
        DUE.is("MIN", b.best(0, 1, MIN), NONE);
        DUE.is("MAX", b.best(0, 1, MAX), NONE);
        DUE.is("how 2", b.best(0, 2, 0), BAD);
        DUE.is("how -1", b.best(0, -1, 0), BAD);
        DUE.is("how 2 of none such", b.best(0, 2, 9), BAD);
        DUE.is("no such", b.best(1, 0, 0), BAD);
        DUE.is("family -1", b.best(-1, 0, 0), BAD);
        DUE.is("without ways", b.best(b.tell(-1), 0, 0), NONE);
        WayBook ring = Nets.ring(4);
        ring.trees(1);
        int[] alike = {14, 13, 11, 7, NONE};
        for (int i = 0; i < 5; i++) {
            DUE.is("alike, greatest " + i, ring.best(0, 0, i), alike[i]);
            DUE.is("alike, least " + i, ring.best(0, 1, i), alike[i]);
        }
        ring.close();
        int[] now = {7, 14, 13, 11};
        for (int i = 0; i < 4; i++) {
            DUE.is("closed weighs 0, greatest " + i, ring.best(0, 0, i), now[i]);
        }
    }

    private static void bestFarthest() {
        WayBook c = Nets.stars(50);
        WayBook d = Nets.stars(-50);
        c.all(4095);
        d.all(4095);
        DUE.is("600", c.best(0, 0, 0), 4095);
        DUE.is("0 of 600", c.best(0, 0, 4095), 0);
        DUE.is("550, last", c.best(0, 0, 12), 2047);
        DUE.is("-600", d.best(0, 1, 0), 4095);
        DUE.is("0 of -600", d.best(0, 0, 0), 0);
        DUE.is("-50, first", d.best(0, 0, 1), 2048);
        DUE.is("-600, last", d.best(0, 0, 4095), 4095);
    }

    private static void draw() {
        DUE.promise(28, "draw");
        WayBook b = Nets.complete(3);
        int eight = b.all(7);
        DUE.is("0 of eight", b.draw(eight, 0), 0);
        DUE.is("1 of eight", b.draw(eight, 1), 2);
        DUE.is("-1 of eight", b.draw(eight, -1), 5);
        int three = b.trees(1);
        DUE.is("0 of three", b.draw(three, 0), 6);
        DUE.is("1 of three", b.draw(three, 1), 5);
        DUE.is("-1 of three", b.draw(three, -1), 3);
        int one = b.tell(5);
        DUE.is("of one", b.draw(one, 77), 5);
        DUE.is("of one, MIN", b.draw(one, MIN), 5);
        DUE.is("of none", b.draw(b.tell(-1), 1), NONE);
        DUE.is("no such", b.draw(9, 1), BAD);
        DUE.is("-1", b.draw(-1, 1), BAD);
        boolean again = false;
        for (int seed = 0; seed < 40; seed++) {
            int s = seed * 1103515245 + 12345;
            while (s >>> 30 == 3) {
                again = true;
                s = s * 1103515245 + 12345;
            }
            DUE.is("seed " + seed, b.draw(three, seed), b.way(three, s >>> 30));
        }
        DUE.is("some were drawn again", again ? 1 : 0, 1);
    }

    private static void same() {
        DUE.promise(29, "same");
        WayBook b = Nets.complete(3);
        b.trees(1);
        b.paths(0, 1, false);
        int like = Nets.family(b, 3, 5, 6);
        DUE.is("alike", b.same(0, like), 1);
        DUE.is("itself", b.same(1, 1), 1);
        DUE.is("others", b.same(0, 1), 0);
        DUE.is("more", b.same(0, b.join(1, 0, 1)), 0);
        DUE.is("without ways, and the bare one", b.same(b.tell(-1), b.tell(0)), 0);
        DUE.is("no such g", b.same(0, 29), BAD);
        DUE.is("no such f", b.same(29, 0), BAD);
        DUE.is("-1", b.same(0, -1), BAD);
        DUE.is("-1 twice", b.same(-1, -1), BAD);
    }

    private static void chance() {
        DUE.promise(30, "chance");
        WayBook b = Nets.complete(3);
        b.trees(1);
        DUE.is("two of three", b.chance(0), SURE / 2);
        DUE.is("bare", b.chance(b.tell(0)), SURE);
        DUE.is("none", b.chance(b.tell(-1)), 0);
        DUE.is("one road", b.chance(b.tell(1)), SURE / 2);
        DUE.is("three roads", b.chance(b.tell(7)), SURE / 8);
        DUE.is("a way that holds another adds nothing", b.chance(Nets.family(b, 1, 7)), SURE / 2);
        DUE.is("either of two", b.chance(Nets.family(b, 1, 2)), SURE / 4 * 3);
        b.odds(0, 8);
        b.odds(1, 0);
        b.odds(2, 3);
        DUE.is("by its odds", b.chance(0), SURE / 8 * 3);
        b.odds(1, 1);
        DUE.is("1 - 7/8 * 5/8", b.chance(0), SURE / 64 * 29);
        DUE.is("a road that is none is not there", b.chance(b.by(2, 0, 11)), 0);
        DUE.is("no such", b.chance(29), -1);
        DUE.is("-1", b.chance(-1), -1);
        b.close();
        DUE.is("closed is not there", b.chance(0), SURE / 8);
        WayBook c = Nets.cube();
        for (int road = 0; road < 12; road++) {
            c.odds(road, 1);
        }
        DUE.is("all twelve", c.chance(c.tell(4095)), 1);
        DUE.is("any of twelve", c.chance(c.thin(0, c.by(1, c.all(2048), 11))), SURE / 8);
        DUE.is("without posts", new WayBook().chance(0), -1);
    }

    private static void matters() {
        DUE.promise(31, "matters");
        WayBook b = Nets.complete(3);
        b.trees(1);
        DUE.is("each alike", b.matters(0, 1), SURE / 2);
        b.odds(0, 2);
        DUE.is("whatever its own odds", b.matters(0, 0), SURE / 2);
        DUE.is("odds stay", b.odds(0, 2), 2);
        DUE.is("of another", b.matters(0, 1), SURE / 8 * (5 - 1));
        b.odds(0, 8);
        b.odds(1, 8);
        DUE.is("joined for sure", b.matters(0, 2), 0);
        DUE.is("bare", b.matters(b.tell(0), 0), 0);
        DUE.is("none", b.matters(b.tell(-1), 0), 0);
        DUE.is("no such road", b.matters(0, 3), -1);
        DUE.is("road -1", b.matters(0, -1), -1);
        DUE.is("no such family", b.matters(29, 0), -1);
        DUE.is("family -1", b.matters(-1, 0), -1);
        b.close();
        DUE.is("closed", b.matters(0, 2), -1);
    }

    private static void turned() {
        DUE.promise(32, "turned");
        WayBook b = Nets.complete(4);
        int f = Nets.family(b, 0, 3, 12, 15);
        DUE.is("knots", b.told(f, 1), 4);
        DUE.is("by 1", b.turned(f, 1), 4);
        DUE.is("by 2", b.turned(f, 2), 4);
        DUE.is("by 5", b.turned(f, 5), 6);
        DUE.is("by 12", b.turned(f, 12), 4);
        DUE.is("the book stays", b.told(f, 1), 4);
        DUE.is("by 0", b.turned(f, 0), BAD);
        DUE.is("by 13", b.turned(f, 13), BAD);
        DUE.is("by -1", b.turned(f, -1), BAD);
        DUE.is("no such", b.turned(29, 1), BAD);
        DUE.is("-1", b.turned(-1, 1), BAD);
        DUE.is("bare", b.turned(b.tell(0), 7), 0);
        DUE.is("none", b.turned(b.tell(-1), 7), 0);
        DUE.is("one road", b.turned(b.tell(2), 7), 1);
        WayBook c = Nets.cube();
        int pairs = Nets.family(c, 0, 2049, 40, 2089);
        DUE.is("0 with 11, 3 with 5", c.turned(pairs, 1), 6);
        DUE.is("5 with 6, 10 with 9", c.turned(pairs, 6), 4);
        WayBook five = Nets.complete(5);
        five.trees(1);
        DUE.is("knots of the trees of five", five.told(0, 1), 49);
        DUE.is("turned by 2", five.turned(0, 2), 88);
    }
}
