import java.util.function.Supplier;

/** The edges of FAMILIES that are made of others: promises 14 to 17. */
final class JoinEdges {
    private static final int BAD = -2, STATE = -3, FULL = -4;
    private static final int MIN = Integer.MIN_VALUE, MAX = Integer.MAX_VALUE;
    /** The number of the FAMILY without WAYS in Nets.families(..). */
    private static final int EMPTY = 6;

    private JoinEdges() {
    }

    static void run(Edge e) {
        both(e);
        either(e);
        firstAlone(e);
        unions(e);
        over(e);
        leftOver(e);
        holding(e);
        held(e);
        joinKind(e);
        joinBad(e);
        joinState(e);
        joinFull(e);
        least(e);
        greatest(e);
        hitting(e);
        hittingLeast(e);
        thinKind(e);
        thinRefused(e);
        thinState(e);
        by(e);
        byTurned(e);
        byRefused(e);
        within(e);
        withinRefused(e);
    }

    /** A cube with all of its sets of ROADS (0), none (1), just the WAY without ROADS (2), just all ROADS (3). */
    private static WayBook ends() {
        WayBook b = Nets.cube();
        b.all(4095);
        b.tell(-1);
        b.tell(0);
        b.tell(4095);
        return b;
    }

    // ---- join

    private static void both(Edge e) {
        e.promise(14, "how 0: WAYS that are in f and in g;");
        WayBook b = ends();
        e.ways("one in common", b, b.join(0, 0, 3), 4095);
        e.ways("the first in common", b, b.join(0, 2, 0), 0);
        e.ways("none in common", b, b.join(0, 2, 3));
        e.ways("with none", b, b.join(0, 0, 1));
        e.ways("none with none", b, b.join(0, 1, 1));
        e.is("all with all", b.count(b.join(0, 0, 0)), 4096);
        int f = Nets.family(b, 1, 2048, 3);
        e.ways("some in common", b, b.join(0, f, Nets.family(b, 3, 2048, 2)), 2048, 3);
    }

    private static void either(Edge e) {
        e.promise(14, "1 in one of both (or both);");
        WayBook b = ends();
        e.ways("two", b, b.join(1, 3, 2), 0, 4095);
        e.ways("one twice is one", b, b.join(1, 3, 3), 4095);
        e.ways("with none", b, b.join(1, 3, 1), 4095);
        e.ways("none with one", b, b.join(1, 1, 2), 0);
        e.ways("none with none", b, b.join(1, 1, 1));
        e.is("all with one", b.count(b.join(1, 0, 3)), 4096);
    }

    private static void firstAlone(Edge e) {
        e.promise(14, "2 in f and not in g;");
        WayBook b = ends();
        int most = b.join(2, 0, 3);
        e.is("all but one", b.count(most), 4095);
        e.is("not the last", b.has(most, 4095), 0);
        e.is("the one ahead of it", b.has(most, 4094), 1);
        e.ways("one but all", b, b.join(2, 3, 0));
        e.ways("one but another", b, b.join(2, 3, 2), 4095);
        e.ways("one but none", b, b.join(2, 2, 1), 0);
        e.ways("none but one", b, b.join(2, 1, 2));
        e.ways("one but itself", b, b.join(2, 2, 2));
    }

    private static void unions(Edge e) {
        e.promise(14, "3 all unions of a WAY of f and one of g;");
        WayBook b = ends();
        e.is("all with all", b.same(b.join(3, 0, 0), 0), 1);
        e.ways("all with the greatest", b, b.join(3, 0, 3), 4095);
        e.is("all with the bare way", b.same(b.join(3, 0, 2), 0), 1);
        e.ways("all with none", b, b.join(3, 0, 1));
        e.ways("none with all", b, b.join(3, 1, 0));
        e.ways("none with none", b, b.join(3, 1, 1));
        e.ways("bare with bare", b, b.join(3, 2, 2), 0);
        e.ways("bare with the greatest", b, b.join(3, 2, 3), 4095);
        int one = b.tell(1);
        e.ways("one with itself", b, b.join(3, one, one), 1);
        e.ways("first and last", b, b.join(3, one, b.tell(2048)), 2049);
        e.ways("two pairs of one union", b, b.join(3, Nets.family(b, 1, 3), b.tell(2)), 3);
        WayBook c = Nets.ring(3);
        int pair = Nets.family(c, 1, 2);
        e.ways("two with themselves", c, c.join(3, pair, pair), 2, 1, 3);
    }

    private static void over(Edge e) {
        e.promise(14, "4 f OVER g: all sets of ROADS 0 .. 11 that share none with any WAY of g and with each of them "
            + "together are in f;");
        WayBook b = ends();
        e.ways("all over the greatest", b, b.join(4, 0, 3), 0);
        e.is("all over the bare way", b.same(b.join(4, 0, 2), 0), 1);
        e.ways("all over all", b, b.join(4, 0, 0), 0);
        e.ways("none over the bare way", b, b.join(4, 1, 2));
        e.ways("one over itself", b, b.join(4, 3, 3), 0);
        e.ways("one over another", b, b.join(4, 2, 3));
        int over = b.join(4, 0, b.tell(2048));
        e.is("all over the last road", b.count(over), 2048);
        e.is("without it", b.often(over, 11), 0);
        WayBook c = Nets.ring(3);
        int f = Nets.family(c, 1 | 4, 2 | 4, 1, 1 | 2 | 4);
        e.ways("with each of two", c, c.join(4, f, Nets.family(c, 1, 2)), 4);
        e.ways("with one of two", c, c.join(4, f, c.tell(1)), 0, 4, 6);
        WayBook d = Nets.ring(3);
        e.ways("shares one with just one of two", d, d.join(4, Nets.family(d, 1, 3), Nets.family(d, 1, 2)));
        int far = c.by(2, c.tell(1), 11);
        e.ways("a road that there is not", c, c.join(4, far, c.tell(1)), 2048);
    }

    private static void leftOver(Edge e) {
        e.promise(14, "5 what is left of f without the unions of a WAY of f OVER g and one of g;");
        WayBook b = ends();
        e.ways("all and all", b, b.join(5, 0, 0));
        e.ways("all and bare", b, b.join(5, 0, 2));
        int most = b.join(5, 0, 3);
        e.is("all and the greatest", b.count(most), 4095);
        e.is("not it", b.has(most, 4095), 0);
        e.ways("none and bare", b, b.join(5, 1, 2));
        e.ways("one and itself", b, b.join(5, 3, 3));
        e.ways("one and another", b, b.join(5, 2, 3), 0);
        WayBook c = Nets.ring(3);
        int f = Nets.family(c, 1 | 4, 2 | 4, 1);
        e.ways("one is left", c, c.join(5, f, Nets.family(c, 1, 2)), 1);
        WayBook d = Nets.ring(3);
        int g = Nets.family(d, 1 | 4, 2, 1);
        e.ways("those without are left", d, d.join(5, g, d.tell(1)), 2);
    }

    private static void holding(Edge e) {
        e.promise(14, "6 WAYS of f that hold all of some WAY of g;");
        WayBook b = ends();
        e.ways("of the greatest", b, b.join(6, 0, 3), 4095);
        e.is("of the bare way", b.count(b.join(6, 0, 2)), 4096);
        e.ways("of none", b, b.join(6, 0, 1));
        e.ways("none", b, b.join(6, 1, 0));
        e.ways("bare of all", b, b.join(6, 2, 0), 0);
        e.ways("bare of the greatest", b, b.join(6, 2, 3));
        int f = Nets.family(b, 1, 3, 2049, 2048);
        e.ways("itself, and one more", b, b.join(6, f, b.tell(2048)), 2048, 2049);
        WayBook c = ends();
        int g = Nets.family(c, 1, 3, 7);
        e.ways("all of it, not a part", c, c.join(6, g, c.tell(3)), 3, 7);
        e.ways("some, not each", c, c.join(6, g, Nets.family(c, 7, 2048)), 7);
    }

    private static void held(Edge e) {
        e.promise(14, "7 that are held by some WAY of g.");
        WayBook b = ends();
        e.is("by the greatest", b.count(b.join(7, 0, 3)), 4096);
        e.ways("by the bare way", b, b.join(7, 0, 2), 0);
        e.ways("by none", b, b.join(7, 0, 1));
        e.ways("none", b, b.join(7, 1, 0));
        e.ways("the greatest by all", b, b.join(7, 3, 0), 4095);
        e.ways("the greatest by bare", b, b.join(7, 3, 2));
        int f = Nets.family(b, 1, 3, 2049, 2048);
        e.ways("itself, and one less", b, b.join(7, f, b.tell(2049)), 2048, 1, 2049);
        WayBook c = ends();
        int g = Nets.family(c, 1, 3, 7);
        e.ways("all of it, not a part", c, c.join(7, g, c.tell(3)), 1, 3);
        e.ways("some, not each", c, c.join(7, g, Nets.family(c, 1, 2048)), 1);
    }

    private static void joinKind(Edge e) {
        e.promise(14, "KIND 0.");
        for (int how = 0; how < 8; how++) {
            for (int kind = 0; kind < 6; kind++) {
                WayBook b = Nets.rich();
                e.is("join(" + how + ", " + kind + ", 3)", b.told(b.join(how, kind, 3), 0), 0);
                e.is("join(" + how + ", 3, " + kind + ")", b.told(b.join(how, 3, kind), 0), 0);
            }
        }
    }

    private static void joinBad(Edge e) {
        e.promise(14, "BAD;");
        Supplier<WayBook> seven = () -> Nets.families(7);
        e.range("how", 0, 7, seven, (b, how) -> b.join(how, 0, 3), BAD);
        for (int each = 0; each < 8; each++) {
            int how = each;
            e.families("join(" + how + "), f", Nets::rich, (b, f) -> b.join(how, f, 0), BAD);
            e.families("join(" + how + "), g", Nets::rich, (b, g) -> b.join(how, 0, g), BAD);
            e.refused("full, join(" + how + "), f", () -> Nets.families(30), b -> b.join(how, 30, 0), BAD);
            e.refused("full, join(" + how + "), g", () -> Nets.families(30), b -> b.join(how, 0, 30), BAD);
        }
        e.refused("ahead of STATE, f", seven, b -> b.join(4, 7, EMPTY), BAD);
        e.refused("ahead of STATE, f -1", seven, b -> b.join(5, -1, EMPTY), BAD);
        e.refused("ahead of FULL, how", () -> Nets.families(30), b -> b.join(8, 0, 0), BAD);
        e.refused("no families", () -> Nets.posts(3), b -> b.join(0, 0, 0), BAD);
    }

    private static void joinState(Edge e) {
        e.promise(14, "STATE (4, 5): g has no WAYS;");
        Supplier<WayBook> seven = () -> Nets.families(7);
        for (int how = 0; how < 8; how++) {
            int each = how;
            if (how == 4 || how == 5) {
                e.refused("join(" + how + "), g has none", seven, b -> b.join(each, 0, EMPTY), STATE);
                e.refused("join(" + how + "), both have none", seven, b -> b.join(each, EMPTY, EMPTY), STATE);
                e.refused("join(" + how + "), full", () -> Nets.families(30), b -> b.join(each, 0, EMPTY), STATE);
            } else {
                e.is("join(" + how + "), g has none", seven.get().join(how, 0, EMPTY), 7);
                e.is("join(" + how + "), both have none", seven.get().join(how, EMPTY, EMPTY), 7);
                e.is("join(" + how + "), full", Nets.families(30).join(how, 0, EMPTY), FULL);
            }
            e.is("join(" + how + "), f has none", seven.get().join(how, EMPTY, 0), 7);
            WayBook b = seven.get();
            e.is("join(" + how + "), g has one", b.join(how, 0, b.tell(0)), 8);
        }
    }

    private static void joinFull(Edge e) {
        e.promise(14, "FULL.");
        for (int each = 0; each < 8; each++) {
            int how = each;
            e.full("join(" + how + ", 0, 3)", b -> b.join(how, 0, 3));
        }
    }

    // ---- thin

    private static void least(Edge e) {
        e.promise(15, "how 0: WAYS of f that hold no other WAY of f;");
        WayBook b = ends();
        e.ways("of all", b, b.thin(0, 0), 0);
        e.ways("of none", b, b.thin(0, 1));
        e.ways("of bare", b, b.thin(0, 2), 0);
        e.ways("of one", b, b.thin(0, 3), 4095);
        e.ways("one holds the other by one road", b, b.thin(0, Nets.family(b, 2048, 2049)), 2048);
        e.ways("by all roads but one", b, b.thin(0, Nets.family(b, 4095, 1)), 1);
        WayBook c = ends();
        e.ways("neither holds the other", c, c.thin(0, Nets.family(c, 2047, 2048)), 2048, 2047);
        e.ways("alike but for one each", c, c.thin(0, Nets.family(c, 4094, 2047)), 4094, 2047);
    }

    private static void greatest(Edge e) {
        e.promise(15, "1 that no other WAY of f holds;");
        WayBook b = ends();
        e.ways("of all", b, b.thin(1, 0), 4095);
        e.ways("of none", b, b.thin(1, 1));
        e.ways("of bare", b, b.thin(1, 2), 0);
        e.ways("of one", b, b.thin(1, 3), 4095);
        e.ways("one holds the other by one road", b, b.thin(1, Nets.family(b, 2048, 2049)), 2049);
        e.ways("by all roads but one", b, b.thin(1, Nets.family(b, 4095, 1)), 4095);
        WayBook c = ends();
        e.ways("neither holds the other", c, c.thin(1, Nets.family(c, 2047, 2048)), 2048, 2047);
        e.ways("alike but for one each", c, c.thin(1, Nets.family(c, 4094, 2047)), 4094, 2047);
    }

    private static void hitting(Edge e) {
        e.promise(15, "2 the sets of ROADS of THE NET that share one with each WAY of f");
        WayBook b = ends();
        e.ways("of the bare way", b, b.thin(2, 2));
        e.ways("of all", b, b.thin(2, 0));
        e.ways("of none", b, b.thin(2, 1), 0);
        e.is("of the greatest", b.count(b.thin(2, 3)), 12);
        e.ways("of the first road", b, b.thin(2, b.tell(1)), 1);
        e.ways("of the last road", b, b.thin(2, b.tell(2048)), 2048);
        e.ways("of each of both", b, b.thin(2, Nets.family(b, 1, 2048)), 2049);
        e.ways("of one with both", b, b.thin(2, b.tell(2049)), 2048, 1);
        WayBook c = Nets.ring(3);
        e.ways("no road beyond those of the net", c, c.thin(2, c.tell(7)), 4, 2, 1);
        WayBook none = Nets.posts(3);
        e.ways("without roads, of none", none, none.thin(2, none.tell(-1)), 0);
        e.ways("without roads, of bare", none, none.thin(2, none.tell(0)));
    }

    private static void hittingLeast(Edge e) {
        e.promise(15, "and hold no other such set.");
        WayBook b = Nets.ring(3);
        e.ways("two that share one", b, b.thin(2, Nets.family(b, 3, 6)), 2, 5);
        e.ways("one way adds nothing", b, b.thin(2, Nets.family(b, 3, 7)), 2, 1);
        e.ways("each two of three", b, b.thin(2, Nets.family(b, 3, 5, 6)), 6, 5, 3);
    }

    private static void thinKind(Edge e) {
        e.promise(15, "KIND 0.");
        for (int how = 0; how < 3; how++) {
            for (int kind = 0; kind < 6; kind++) {
                WayBook b = Nets.rich();
                e.is("thin(" + how + ", " + kind + ")", b.told(b.thin(how, kind), 0), 0);
            }
        }
    }

    private static void thinRefused(Edge e) {
        e.promise(15, "BAD;");
        e.range("how", 0, 2, Nets::rich, (b, how) -> b.thin(how, 3), BAD);
        for (int each = 0; each < 3; each++) {
            int how = each;
            e.families("thin(" + how + ")", Nets::rich, (b, f) -> b.thin(how, f), BAD);
            e.refused("full, thin(" + how + ")", () -> Nets.families(30), b -> b.thin(how, 30), BAD);
        }
        e.refused("full, how", () -> Nets.families(30), b -> b.thin(3, 0), BAD);
        e.refused("ahead of STATE, how", JoinEdges::withClosed, b -> b.thin(3, 0), BAD);
        e.refused("no families", () -> Nets.posts(3), b -> b.thin(2, 0), BAD);

        e.promise(15, "FULL.");
        for (int each = 0; each < 3; each++) {
            int how = each;
            e.full("thin(" + how + ", 3)", b -> b.thin(how, 3));
        }
    }

    /** A rich() book whose ROAD 2 went. */
    private static WayBook withClosed() {
        WayBook b = Nets.rich();
        b.close();
        return b;
    }

    private static WayBook withRoad(int road) {
        WayBook b = Nets.rich();
        b.by(2, 3, road);
        return b;
    }

    private static void thinState(Edge e) {
        e.promise(15, "STATE (2): a WAY has a ROAD that there is not (any more);");
        e.refused("all of them have, or some", JoinEdges::withClosed, b -> b.thin(2, 3), STATE);
        e.is("how 0", withClosed().thin(0, 3), 6);
        e.is("how 1", withClosed().thin(1, 3), 6);
        e.is("ahead of its going", Nets.rich().thin(2, 3), 6);
        WayBook b = withClosed();
        e.is("none has it", b.thin(2, b.tell(3)), 7);
        b.road(1, 2, 0);
        e.is("it came again", b.thin(2, 3), 8);
        for (int each = 3; each < 12; each++) {
            int road = each;
            e.refused("road " + road + " never was", () -> withRoad(road), x -> x.thin(2, 6), STATE);
        }
        e.is("road 2 is", withRoad(2).thin(2, 6), 7);
        WayBook full = Nets.families(30);
        full.close();
        e.is("full", full.thin(2, 3), STATE);
        e.is("full, none has it", full.thin(2, EMPTY), FULL);
    }

    // ---- by

    private static void by(Edge e) {
        e.promise(16, "how 0: WAYS of f without a ROAD, 1 with it,");
        for (int road : new int[] {0, 1, 5, 6, 10, 11}) {
            WayBook b = Nets.cube();
            int f = Nets.family(b, 0, 1 << road, 4095 ^ 1 << road, 4095);
            int without = b.by(0, f, road);
            e.is("without " + road, b.count(without), 2);
            e.is("the bare way", b.has(without, 0), 1);
            e.is("all but it", b.has(without, 4095 ^ 1 << road), 1);
            int with = b.by(1, f, road);
            e.is("with " + road, b.count(with), 2);
            e.is("just it", b.has(with, 1 << road), 1);
            e.is("all", b.has(with, 4095), 1);
        }
        WayBook c = ends();
        e.ways("of none, without", c, c.by(0, 1, 0));
        e.ways("of none, with", c, c.by(1, 1, 11));
    }

    private static void byTurned(Edge e) {
        e.promise(16, "2 all WAYS, in which it is put in where it is not, and taken from those that have it.");
        for (int road = 0; road < 12; road++) {
            WayBook b = ends();
            int bit = 1 << road;
            e.ways("put into the bare way", b, b.by(2, 2, road), bit);
            e.ways("taken from the greatest", b, b.by(2, 3, road), 4095 ^ bit);
            e.ways("of none", b, b.by(2, 1, road));
            e.is("of all", b.same(b.by(2, 0, road), 0), 1);
            int pair = Nets.family(b, 0, bit);
            e.ways("of both", b, b.by(2, pair, road), 0, bit);
        }
    }

    private static void byRefused(Edge e) {
        e.promise(16, "KIND 0.");
        for (int how = 0; how < 3; how++) {
            for (int kind = 0; kind < 6; kind++) {
                WayBook b = Nets.rich();
                e.is("by(" + how + ", " + kind + ", 0)", b.told(b.by(how, kind, 0), 0), 0);
            }
        }

        e.promise(16, "BAD: also road is not 0 .. 11 (there or not);");
        e.range("how", 0, 2, Nets::rich, (b, how) -> b.by(how, 3, 0), BAD);
        for (int each = 0; each < 3; each++) {
            int how = each;
            e.range("by(" + how + "), road", 0, 11, Nets::rich, (b, road) -> b.by(how, 3, road), BAD);
            e.range("by(" + how + "), road of none", 0, 11, () -> Nets.starsWithBare(0), (b, road) -> b.by(how, 0, road), BAD);
            e.families("by(" + how + ")", Nets::rich, (b, f) -> b.by(how, f, 11), BAD);
            e.refused("full, by(" + how + "), road", () -> Nets.families(30), b -> b.by(how, 3, 12), BAD);
            e.refused("full, by(" + how + "), f", () -> Nets.families(30), b -> b.by(how, 30, 0), BAD);
        }
        e.refused("full, how", () -> Nets.families(30), b -> b.by(3, 0, 0), BAD);

        e.promise(16, "FULL.");
        for (int each = 0; each < 3; each++) {
            int how = each;
            e.full("by(" + how + ", 3, 11)", b -> b.by(how, 3, 11));
        }
    }

    // ---- within

    private static void within(Edge e) {
        e.promise(17, "WAYS of f with a SUM low .. high.");
        WayBook b = Nets.posts(3);
        b.road(0, 1, -50);
        b.road(1, 2, 50);
        b.road(0, 2, 7);
        int f = b.all(7);
        e.ways("7 .. 7", b, b.within(f, 7, 7), 4, 7);
        e.ways("6 .. 6", b, b.within(f, 6, 6));
        e.ways("8 .. 8", b, b.within(f, 8, 8));
        e.ways("6 .. 7", b, b.within(f, 6, 7), 4, 7);
        e.ways("7 .. 8", b, b.within(f, 7, 8), 4, 7);
        e.ways("57 and more", b, b.within(f, 57, MAX), 6);
        e.ways("more than 57", b, b.within(f, 58, MAX));
        e.ways("-50 and less", b, b.within(f, MIN, -50), 1);
        e.ways("less than -50", b, b.within(f, MIN, -51));
        e.is("any", b.count(b.within(f, MIN, MAX)), 8);
        e.is("from the least to the greatest", b.count(b.within(f, -50, 57)), 8);
        e.is("less both", b.count(b.within(f, -49, 56)), 6);
        e.ways("of none", b, b.within(b.tell(-1), MIN, MAX));
        e.ways("of the bare way", b, b.within(b.tell(0), 0, 0), 0);
        WayBook c = ends();
        e.is("of all", c.count(c.within(0, MIN, MAX)), 4096);
    }

    private static void withinRefused(Edge e) {
        e.promise(17, "KIND 0.");
        for (int kind = 0; kind < 6; kind++) {
            WayBook b = Nets.rich();
            e.is("within(" + kind + ", 0, 9)", b.told(b.within(kind, 0, 9), 0), 0);
        }

        e.promise(17, "BAD;");
        e.families("within", Nets::rich, (b, f) -> b.within(f, 0, 9), BAD);
        e.families("within of none", () -> Nets.posts(8), (b, f) -> b.within(f, 0, 9), BAD);
        e.refused("full", () -> Nets.families(30), b -> b.within(30, 0, 9), BAD);
        e.refused("low above high", Nets::rich, b -> b.within(6, 9, 0), BAD);

        e.promise(17, "FULL.");
        e.full("within(0, 0, 9)", b -> b.within(0, 0, 9));
    }
}
