import java.util.function.IntUnaryOperator;
import java.util.function.Supplier;

/** The edges of the host: Terms 3 and 4, promises 37 to 43. */
final class HostEdges {
    private static final int NONE = -1, BAD = -2, STATE = -3, FULL = -4;
    private static final int NOTHING = -11, OUTSIDE = -12, OTHER = -13, BELOW = -14;
    private static final int MIN = Integer.MIN_VALUE, MAX = Integer.MAX_VALUE;
    private static final int FITS = 0, JOINS = 1, WEIGHS = 2;
    private static final int FAMILY = 0, PATHS = 1, ROUNDS = 2, TREES = 3, PAIRS = 4, PARTS = 5;

    private HostEdges() {
    }

    static void run(Edge e) {
        numbersWrap(e);
        acts(e);
        ofSize(e);
        bodies(e);
        nextAbove(e);
        superAbove(e);
        theTrace(e);
        sheets(e);
        shelves(e);
        hostRefuses(e);
        firstThatIsNamed(e);
        changeNothing(e);
        numbersOfRefusals(e);
        sheet(e);
        sheetRefused(e);
        cell(e);
        cellRefused(e);
        lay(e);
        layRefused(e);
        layAsRoad(e);
        shelf(e);
        shelfRefused(e);
        taken(e);
        takenRefused(e);
        act(e);
        trace(e);
    }

    // ---- terms: acts

    /** A FAMILY of each KIND, with n WAYS: 8, 2, 1, 3, 4, 3. */
    private static final int[] N = {8, 2, 1, 3, 4, 3};

    private static void numbersWrap(Edge e) {
        e.terms(3, "ACTS of a FAMILY, with a number x (ints that wrap):");
        WayBook b = Nets.rich();
        int n = N[FAMILY];
        e.is("the greatest", b.act(0, FITS, MAX - n), MAX);
        e.is("one more", b.act(0, FITS, MAX - n + 1), MIN);
        e.is("MAX", b.act(0, FITS, MAX), MIN + n - 1);
        e.is("MIN", b.act(0, FITS, MIN), MIN + n);
        e.is("-n", b.act(0, FITS, -n), 0);
        e.is("times 3 just fits", b.act(0, JOINS, 715827882 - n), 2147483646);
        e.is("times 3 wraps", b.act(0, JOINS, 715827883 - n), -2147483647);
        e.is("times 3 just fits below", b.act(0, JOINS, -715827882 - n), -2147483646);
        e.is("times 3 wraps below", b.act(0, JOINS, -715827883 - n), 2147483647);
        e.is("x + 1 wraps", b.act(0, WEIGHS, MAX), (int) (3L * (MIN + n - 1)) - (MIN + n));
        e.is("times 2 just fits", b.act(1, FITS, 1073741823 - 2), 2147483646);
        e.is("times 2 wraps", b.act(1, FITS, 1073741824 - 2), MIN);
        e.is("plus 7 just fits", b.act(5, FITS, MAX - 3 - 7), MAX);
        e.is("plus 7 wraps", b.act(5, FITS, MAX - 3 - 6), MIN);
    }

    private static void acts(Edge e) {
        e.terms(3, "0 fits, 1 joins, 2 weighs.");
        int[][] first = {{10, 11, 12}, {20, 11, 21}, {20, 30, 21}, {10, 40, 12}, {10, 11, 50}, {60, 61, 12}};
        WayBook b = Nets.rich();
        for (int kind = 0; kind < 6; kind++) {
            for (int act = 0; act < 3; act++) {
                b.act(kind, act, 5);
                e.is("act " + act + " of kind " + kind, b.trace(0), first[kind][act]);
            }
            e.is("act 3 of kind " + kind, b.act(kind, 3, 5), 0);
            e.is("no body of it", b.there(4), 0);
            e.is("act -1 of kind " + kind, b.act(kind, -1, 5), 0);
            e.is("no body of it", b.there(4), 0);
        }
    }

    private static void ofSize(Edge e) {
        e.terms(3, "BODIES, each with its number; n is how many WAYS it has:");
        WayBook b = Nets.stars(1);
        b.tell(-1);
        b.tell(0);
        b.all(1);
        b.join(2, b.all(4095), 1);
        int[] n = {0, 1, 2, 4096, 4095};
        for (int f = 0; f < n.length; f++) {
            e.is("n is " + n[f], b.act(f, FITS, 0), n[f]);
        }
    }

    /** What a body answers, near 0, near -n, and where its ints wrap; each KIND has n of its own. */
    private static void body(Edge e, String words, int kind, int act, IntUnaryOperator due) {
        e.terms(3, words);
        int n = N[kind];
        int[] near = {0, -n, MIN, MAX - n, MAX / 2 - n, MAX / 3 - n, MIN / 3 - n, MIN / 2 - n};
        for (int middle : near) {
            for (int x = middle - 1; x != middle + 2; x++) {
                WayBook b = Nets.rich();
                e.is("act(" + kind + ", " + act + ", " + x + ")", b.act(kind, act, x), due.applyAsInt(x));
            }
        }
    }

    private static void bodies(Edge e) {
        body(e, "FAMILY: 10 fits: x + n.", FAMILY, FITS, x -> x + 8);
        body(e, "11 joins: fits(x) * 3.", FAMILY, JOINS, x -> (x + 8) * 3);
        body(e, "12 weighs: joins(x) - fits(x + 1).", FAMILY, WEIGHS, x -> (x + 8) * 3 - (x + 1 + 8));
        body(e, "PATHS: 20 fits: super.fits(x) * 2.", PATHS, FITS, x -> (x + 2) * 2);
        body(e, "21 weighs: super.weighs(x) ^ 5.", PATHS, WEIGHS, x -> (x + 2) * 2 * 3 - (x + 1 + 2) * 2 ^ 5);
        body(e, "ROUNDS: 30 joins: super.joins(x) + fits(x).", ROUNDS, JOINS, x -> (x + 1) * 2 * 3 + (x + 1) * 2);
        body(e, "TREES: 40 joins: super.joins(x + n).", TREES, JOINS, x -> (x + 3 + 3) * 3);
        body(e, "PAIRS: 50 weighs: fits(x) - super.weighs(x).", PAIRS, WEIGHS,
            x -> x + 4 - ((x + 4) * 3 - (x + 1 + 4)));
        body(e, "PARTS: 60 fits: super.fits(x) + 7.", PARTS, FITS, x -> x + 3 + 7);
        body(e, "61 joins: super.joins(x) * 2.", PARTS, JOINS, x -> (x + 3 + 3 + 7) * 3 * 2);
    }

    private static void ran(Edge e, int kind, int act, int... due) {
        WayBook b = Nets.rich();
        b.act(kind, act, 5);
        String call = "act(" + kind + ", " + act + ", 5)";
        e.is(call + ": how many bodies", b.there(4), due.length);
        for (int i = 0; i < due.length; i++) {
            e.is(call + ": body " + i, b.trace(i), due[i]);
        }
        e.is(call + ": no more", b.trace(due.length), NONE);
    }

    private static void nextAbove(Edge e) {
        e.terms(3, "fits(..) and so on: the body of the FAMILY's KIND, or, if that has none, of the next KIND above that "
            + "has one;");
        ran(e, ROUNDS, FITS, 20, 10);
        ran(e, TREES, FITS, 10);
        ran(e, PAIRS, FITS, 10);
        ran(e, PARTS, FITS, 60, 10);
        ran(e, PATHS, JOINS, 11, 20, 10);
        ran(e, PAIRS, JOINS, 11, 10);
        ran(e, TREES, WEIGHS, 12, 40, 11, 10, 10);
        ran(e, PARTS, WEIGHS, 12, 61, 40, 11, 60, 10, 60, 10);
        ran(e, ROUNDS, WEIGHS, 21, 12, 30, 11, 20, 10, 20, 10, 20, 10);
    }

    private static void superAbove(Edge e) {
        e.terms(3, "super.fits(..): so from the KIND above the body's on.");
        ran(e, PATHS, FITS, 20, 10);
        ran(e, PATHS, WEIGHS, 21, 12, 11, 20, 10, 20, 10);
        ran(e, ROUNDS, JOINS, 30, 11, 20, 10, 20, 10);
        ran(e, TREES, JOINS, 40, 11, 10);
        ran(e, PARTS, JOINS, 61, 40, 11, 60, 10);
        ran(e, PARTS, FITS, 60, 10);
    }

    private static void theTrace(Edge e) {
        e.terms(3, "THE TRACE: the numbers of the bodies that ran in the latest act(), in the order in which they began "
            + "(what stands further left is worked out first);");
        ran(e, PAIRS, WEIGHS, 50, 10, 12, 11, 10, 10);
        ran(e, FAMILY, WEIGHS, 12, 11, 10, 10);
        WayBook b = Nets.rich();
        b.act(2, WEIGHS, 0);
        b.act(0, JOINS, 0);
        e.is("the latest: first", b.trace(0), 11);
        e.is("the latest: second", b.trace(1), 10);
        e.is("nothing of the one before", b.trace(2), NONE);

        e.terms(3, "the first 40 are kept.");
        // No act runs more than ten bodies (NOTES.md): the edge is out of reach, these are the nearest to it.
        ran(e, ROUNDS, WEIGHS, 21, 12, 30, 11, 20, 10, 20, 10, 20, 10);
        for (int kind = 0; kind < 6; kind++) {
            for (int act = 0; act < 3; act++) {
                WayBook c = Nets.rich();
                c.act(kind, act, 0);
                e.isNot("its last is kept", c.trace(c.there(4) - 1), NONE);
                e.is("ten at most", c.there(4) <= 10 ? 1 : 0, 1);
                e.is("none is 39th", c.trace(39), NONE);
                e.is("none is 40th", c.trace(40), NONE);
            }
        }
    }

    // ---- terms: sheets and shelves, refusals

    private static WayBook withSheet(int sort, int n) {
        WayBook b = Nets.posts(8);
        b.sheet(0, sort, n);
        return b;
    }

    /** What an item is, as the WEIGHT of a ROAD tells it; BAD: it is no WEIGHT. */
    private static int item(int sort, int v) {
        WayBook b = withSheet(sort, 3);
        b.cell(0, 1, 1);
        b.cell(0, 2, v);
        return b.lay(0, sort, 0) < 0 ? BAD : b.roadOf(0, 2);
    }

    private static void sheets(Edge e) {
        e.terms(4, "SHEETS 0 .. 5 are rows of numbers:");
        e.range("sheet(sheet, 0, 3)", 0, 5, Nets::rich, (b, sheet) -> b.sheet(sheet, 0, 3), BAD);
        WayBook b = Nets.posts(2);
        for (int sheet = 0; sheet < 6; sheet++) {
            b.sheet(sheet, 2, 3);
            b.cell(sheet, 1, 1);
            b.cell(sheet, 2, sheet + 1);
        }
        for (int sheet = 0; sheet < 6; sheet++) {
            e.is("each its own row", b.lay(sheet, 2, 0), 0);
            e.is("with its own numbers", b.roadOf(0, 2), sheet + 1);
            b.close();
        }

        e.terms(4, "of sort 0 bytes, 1 shorts, 2 ints;");
        e.range("sort", -1, 2, Nets::rich, (x, sort) -> x.sheet(0, sort, 3), BAD);
        for (int sort = 0; sort < 3; sort++) {
            e.is("-50", item(sort, -50), -50);
            e.is("50", item(sort, 50), 50);
        }
        int[] v = {128 + 50, 256 - 50, 256 + 50, 32768 + 50, 65536 - 50, 65536 + 50};
        int[][] due = {{BAD, BAD, BAD}, {-50, BAD, BAD}, {50, BAD, BAD}, {50, BAD, BAD}, {-50, -50, BAD}, {50, 50, BAD}};
        for (int i = 0; i < v.length; i++) {
            for (int sort = 0; sort < 3; sort++) {
                e.is(v[i] + " in sort " + sort, item(sort, v[i]), due[i][sort]);
            }
        }

        e.terms(4, "or missing (at first).");
        for (int each = 0; each < 6; each++) {
            int sheet = each;
            e.refused("cell of " + sheet, WayBook::new, x -> x.cell(sheet, 0, 1), NOTHING);
            e.refused("lay of " + sheet, () -> Nets.posts(8), x -> x.lay(sheet, 0, 0), NOTHING);
            WayBook c = new WayBook();
            c.sheet(sheet, 0, 1);
            e.is("not any more", c.cell(sheet, 0, 1), 1);
            e.is("another one still", c.cell((sheet + 1) % 6, 0, 1), NOTHING);
        }
    }

    private static void shelves(Edge e) {
        e.terms(4, "SHELVES 0 .. 5 hold a FAMILY, a SHEET's row, or nothing (at first).");
        e.range("shelf(shelf, 0, 0)", 0, 5, Nets::rich, (b, shelf) -> b.shelf(shelf, 0, 0), BAD);
        e.range("taken(shelf, 0)", 0, 5, Nets::rich, (b, shelf) -> b.taken(shelf, 0), BAD);
        for (int each = 0; each < 6; each++) {
            int shelf = each;
            e.refused("shelf " + shelf + " at first", WayBook::new, b -> b.taken(shelf, 0), NOTHING);
            WayBook b = Nets.rich();
            b.shelf(shelf, 0, 3);
            e.is("a family", b.taken(shelf, 3), 3);
            int next = (shelf + 2) % 6;
            b.shelf(next, 1, 2);
            e.is("a row", b.taken(next, 8), 40);
            e.is("the other stays", b.taken(shelf, 3), 3);
            b.shelf(shelf, 2, 0);
            e.is("nothing", b.taken(shelf, 3), NOTHING);
            e.is("the row stays", b.taken(next, 8), 40);
        }
    }

    private static void hostRefuses(Edge e) {
        e.terms(4, "The host refuses: -11 nothing where something is asked, -12 a place outside, "
            + "-13 a thing of another kind, -14 a size below 0.");
        Supplier<WayBook> three = () -> withSheet(1, 3);
        e.refused("nothing", three, b -> b.cell(1, 0, 1), -11);
        e.is("something", three.get().cell(0, 0, 1), 1);
        e.refused("outside", three, b -> b.cell(0, 3, 1), -12);
        e.is("inside", three.get().cell(0, 2, 1), 1);
        e.refused("another kind", three, b -> b.lay(0, 0, 0), -13);
        e.is("its kind", three.get().lay(0, 1, 0), BAD);
        e.refused("below 0", three, b -> b.sheet(0, 1, -1), -14);
        e.is("not below 0", three.get().sheet(0, 1, 0), 1);
    }

    private static void firstThatIsNamed(Edge e) {
        e.terms(4, "REFUSALS, of several the first that the call's words name;");
        Supplier<WayBook> full = () -> Nets.families(30);
        e.refused("road: BAD, STATE", () -> Nets.ring(3), b -> b.road(0, 1, 51), BAD);
        e.refused("road: BAD, FULL", Nets::cube, b -> b.road(0, 7, 51), BAD);
        e.refused("road: STATE, FULL", Nets::cube, b -> b.road(0, 1, 0), STATE);
        e.refused("join: BAD, STATE, FULL", full, b -> b.join(4, 30, 6), BAD);
        e.refused("join: STATE, FULL", full, b -> b.join(4, 0, 6), STATE);
        e.refused("sheet: BAD, -14", Nets::rich, b -> b.sheet(6, 0, -1), BAD);
        e.refused("sheet: BAD for its sort, -14", Nets::rich, b -> b.sheet(0, 3, -1), BAD);
        e.refused("cell: BAD, -12", Nets::rich, b -> b.cell(6, -1, 0), BAD);
        e.refused("cell: -11, -12", Nets::rich, b -> b.cell(5, -1, 0), NOTHING);
        e.refused("lay: BAD, -13, -12", Nets::rich, b -> b.lay(0, 3, 99), BAD);
        e.refused("lay: -13, -12", Nets::rich, b -> b.lay(0, 1, 99), OTHER);
        e.refused("lay: -11, -12", Nets::rich, b -> b.lay(5, 1, 99), NOTHING);
        e.refused("lay: -12, BAD as a road", Nets::rich, b -> b.lay(0, 0, 3), OUTSIDE);
        e.refused("taken: BAD, -11", Nets::rich, b -> b.taken(5, 9), BAD);
        e.refused("taken: BAD, -13", Nets::rich, b -> b.taken(0, 9), BAD);
    }

    private static void changeNothing(Edge e) {
        e.terms(4, "they change nothing:");
        Supplier<WayBook> full = () -> Nets.families(30);
        e.refused("odds: e", Nets::rich, b -> b.odds(1, 9), BAD);
        e.refused("all: mask", Nets::rich, b -> b.all(8), BAD);
        e.refused("paths: a = b", Nets::rich, b -> b.paths(0, 0, false), BAD);
        e.refused("trees: heaps", Nets::rich, b -> b.trees(4), BAD);
        e.refused("pairs: full", full, b -> b.pairs(false), FULL);
        e.refused("thin: full", full, b -> b.thin(2, 3), FULL);
        e.refused("write", Nets::rich, b -> b.write(6), BAD);
        e.refused("forge", Nets::rich, b -> b.forge(4, 0, 9), BAD);
        e.refused("check", Nets::rich, b -> b.check(6), BAD);
        e.refused("turned", Nets::rich, b -> b.turned(3, 13), BAD);
        e.refused("sheet: below 0", Nets::rich, b -> b.sheet(0, 2, -1), BELOW);
        e.refused("sheet: above 40", Nets::rich, b -> b.sheet(0, 2, 41), BAD);
        e.refused("cell: outside", Nets::rich, b -> b.cell(0, 5, 9), OUTSIDE);
        e.refused("lay: STATE", Nets::rich, b -> b.lay(0, 0, 0), STATE);
        e.refused("shelf", Nets::rich, b -> b.shelf(0, 0, 6), BAD);
        e.refused("trace", Nets::rich, b -> b.trace(6), NONE);
    }

    private static void numbersOfRefusals(Edge e) {
        e.terms(4, "BAD (-2: a number is none such or not as told), STATE (-3), FULL (-4; 30 FAMILIES: last of all), "
            + "and the host's.");
        e.is("BAD", WayBook.BAD, -2);
        e.is("STATE", WayBook.STATE, -3);
        e.is("FULL", WayBook.FULL, -4);
        e.refused("a number that is none such", Nets::rich, b -> b.count(6), -2);
        e.refused("a number that is not as told", Nets::rich, b -> b.post(100), -2);
        e.refused("there is one between them", Nets::rich, b -> b.road(0, 1, 1), -3);
        e.refused("30 FAMILIES", () -> Nets.families(30), b -> b.rounds(false), -4);
        e.is("29 FAMILIES", Nets.families(29).rounds(false), 29);
        e.refused("FULL is last: BAD", () -> Nets.families(30), b -> b.parts(0, 0, 0), -2);
        e.refused("FULL is last: STATE", () -> Nets.families(30), b -> b.join(5, 0, 6), -3);

        e.terms(4, "NONE is -1.");
        e.is("NONE", WayBook.NONE, -1);
        e.is("there is none such", Nets.rich().way(3, 3), -1);
        e.is("there is one", Nets.rich().way(3, 2), 3);
    }

    // ---- promises

    private static int length(WayBook b, int sheet, int sort) {
        b.shelf(5, 1, sheet);
        return b.taken(5, 6 + sort);
    }

    private static void sheet(Edge e) {
        e.promise(37, "A SHEET becomes a row of n of a sort, all 0,");
        for (int sort = 0; sort < 3; sort++) {
            for (int n : new int[] {0, 1, 2, 39, 40}) {
                WayBook b = Nets.posts(2);
                e.is("sheet(3, " + sort + ", " + n + ")", b.sheet(3, sort, n), 1);
                e.is("its length", length(b, 3, sort), n);
                e.is("behind its last item", b.cell(3, n, 1), OUTSIDE);
                e.is("its last item", b.cell(3, n - 1, 1), n > 0 ? 1 : OUTSIDE);
            }
            WayBook c = Nets.posts(2);
            c.sheet(3, sort, 40);
            for (int i = 0; i < 40; i++) {
                c.cell(3, i, 1);
            }
            c.sheet(3, sort, 40);
            for (int i = 0; i < 38; i++) {
                e.is("all 0 anew: 0 to 0 is no road", c.lay(3, sort, i), BAD);
                c.cell(3, i + 1, 1);
                e.is("0 to 1 is one", c.lay(3, sort, i), 0);
                e.is("of weight 0", c.roadOf(0, 2), 0);
                c.close();
                c.cell(3, i + 1, 0);
            }
        }

        e.promise(37, "or missing (sort -1): 1.");
        WayBook d = Nets.rich();
        e.is("sheet(0, -1, 0)", d.sheet(0, -1, 0), 1);
        e.is("nothing is there", d.cell(0, 0, 1), NOTHING);
        e.is("missing again", d.sheet(0, -1, 0), 1);
        e.is("a row again", d.sheet(0, 0, 1), 1);
        e.is("an item", d.cell(0, 0, 1), 1);
        e.is("the one beside it stays", length(d, 1, 1), 4);
    }

    private static void sheetRefused(Edge e) {
        e.promise(37, "BAD: no such SHEET,");
        for (int each = -1; each < 3; each++) {
            int sort = each;
            e.range("sheet, sort " + sort, 0, 5, Nets::rich, (b, sheet) -> b.sheet(sheet, sort, 2), BAD);
        }

        e.promise(37, "sort;");
        e.range("sort, n 0", -1, 2, Nets::rich, (b, sort) -> b.sheet(0, sort, 0), BAD);
        e.range("sort, n 40", -1, 2, Nets::rich, (b, sort) -> b.sheet(5, sort, 40), BAD);
        e.refused("sort 3, n below 0", Nets::rich, b -> b.sheet(0, 3, -1), BAD);
        e.refused("sort -2, n below 0", Nets::rich, b -> b.sheet(0, -2, -1), BAD);

        e.promise(37, "n above 40;");
        for (int each = 0; each < 3; each++) {
            int sort = each;
            e.is("n 39 of sort " + sort, Nets.rich().sheet(0, sort, 39), 1);
            e.is("n 40 of sort " + sort, Nets.rich().sheet(0, sort, 40), 1);
            e.refused("n 41 of sort " + sort, Nets::rich, b -> b.sheet(0, sort, 41), BAD);
            e.refused("n MAX of sort " + sort, Nets::rich, b -> b.sheet(0, sort, MAX), BAD);
        }

        e.promise(37, "-14.");
        for (int each = 0; each < 3; each++) {
            int sort = each;
            e.is("n 0 of sort " + sort, Nets.rich().sheet(0, sort, 0), 1);
            e.is("n 1 of sort " + sort, Nets.rich().sheet(0, sort, 1), 1);
            e.refused("n -1 of sort " + sort, Nets::rich, b -> b.sheet(0, sort, -1), BELOW);
            e.refused("n MIN of sort " + sort, Nets::rich, b -> b.sheet(0, sort, MIN), BELOW);
            e.refused("n -1 of a missing one", Nets::rich, b -> b.sheet(5, sort, -1), BELOW);
        }
    }

    private static void cell(Edge e) {
        e.promise(38, "Item i of a SHEET becomes v (its lowest 8, 16, 32 bits): 1.");
        int[] bits = {8, 16};
        for (int sort = 0; sort < 2; sort++) {
            int round = 1 << bits[sort];
            for (int v : new int[] {-50, -1, 0, 1, 50}) {
                e.is(v + " in sort " + sort, item(sort, v), v);
                e.is(v + " and once round", item(sort, v + round), v);
                e.is(v + " and once round back", item(sort, v - round), v);
                e.is(v + " and half round", item(sort, v + round / 2), BAD);
            }
            e.is("MIN", item(sort, MIN), 0);
            e.is("MAX", item(sort, MAX), -1);
        }
        e.is("MIN is an int", item(2, MIN), BAD);
        e.is("MAX is an int", item(2, MAX), BAD);
        e.is("65536 is an int", item(2, 65536), BAD);
        e.is("-50 is an int", item(2, -50), -50);
        for (int sort = 0; sort < 3; sort++) {
            WayBook b = withSheet(sort, 40);
            e.is("the first", b.cell(0, 0, 3), 1);
            e.is("the last", b.cell(0, 39, 5), 1);
            e.is("the last but one", b.cell(0, 38, 4), 1);
            e.is("3 to 0", b.lay(0, sort, 0), 0);
            e.is("the first is 3", b.roadOf(0, 1), 3);
            e.is("0 to 4", b.lay(0, sort, 37), 1);
            e.is("the last is 5", b.roadOf(1, 2), 5);
        }
    }

    private static void cellRefused(Edge e) {
        e.promise(38, "BAD;");
        e.range("sheet", 0, 5, Nets::rich, (b, sheet) -> b.cell(sheet, 0, 1), BAD);
        e.range("sheet, all missing", 0, 5, WayBook::new, (b, sheet) -> b.cell(sheet, 0, 1), BAD);
        e.refused("no such sheet, -1", Nets::rich, b -> b.cell(6, -1, 1), BAD);

        e.promise(38, "-11;");
        for (int i : new int[] {MIN, -1, 0, 1, 39, 40, MAX}) {
            e.refused("item " + i + " of a missing one", Nets::rich, b -> b.cell(3, i, 1), NOTHING);
        }
        WayBook c = Nets.rich();
        c.sheet(3, 0, 1);
        e.is("not missing any more", c.cell(3, 0, 1), 1);
        c.sheet(3, -1, 0);
        e.is("missing again", c.cell(3, 0, 1), NOTHING);

        e.promise(38, "-12.");
        for (int sort = 0; sort < 3; sort++) {
            int one = sort;
            for (int n : new int[] {0, 1, 3, 40}) {
                e.range("item of " + n + ", sort " + sort, 0, n - 1, () -> withSheet(one, n),
                    (b, i) -> b.cell(0, i, 1), OUTSIDE);
            }
        }
    }

    private static WayBook withItems(int sort, int... items) {
        WayBook b = withSheet(sort, items.length);
        for (int i = 0; i < items.length; i++) {
            b.cell(0, i, items[i]);
        }
        return b;
    }

    private static void lay(Edge e) {
        e.promise(39, "A ROAD from a SHEET taken for a sort: items i, i + 1, i + 2 are its POSTS and WEIGHT: its number.");
        for (int sort = 0; sort < 3; sort++) {
            WayBook b = withItems(sort, 7, 0, -50, 3, 50);
            e.is("from 0 on", b.lay(0, sort, 0), 0);
            e.is("lesser", b.roadOf(0, 0), 0);
            e.is("other", b.roadOf(0, 1), 7);
            e.is("weight", b.roadOf(0, 2), -50);
            e.is("odds", b.roadOf(0, 3), 4);
            b.cell(0, 2, 1);
            e.is("from 2 on", b.lay(0, sort, 2), 1);
            e.is("lesser", b.roadOf(1, 0), 1);
            e.is("other", b.roadOf(1, 1), 3);
            e.is("weight", b.roadOf(1, 2), 50);
            b.cell(0, 3, 2);
            e.is("from 1 on", b.lay(0, sort, 1), 2);
            e.is("weight", b.roadOf(2, 2), 2);
        }
    }

    private static void layRefused(Edge e) {
        Supplier<WayBook> good = () -> withItems(1, 0, 1, 5, 2, 7);
        e.promise(39, "BAD: no such SHEET,");
        e.range("sheet", 0, 5, good, (b, sheet) -> b.lay(sheet, 1, 0), BAD);
        e.range("sheet, all missing", 0, 5, () -> Nets.posts(8), (b, sheet) -> b.lay(sheet, 2, 0), BAD);

        e.promise(39, "sort;");
        e.range("sort", 0, 2, good, (b, sort) -> b.lay(0, sort, 0), BAD);
        e.range("sort of a missing one", 0, 2, good, (b, sort) -> b.lay(1, sort, 0), BAD);
        e.refused("sort 3, outside", good, b -> b.lay(0, 3, 9), BAD);

        e.promise(39, "-13;");
        for (int each = 0; each < 3; each++) {
            int sort = each;
            Supplier<WayBook> made = () -> withItems(sort, 0, 1, 5);
            for (int taken = 0; taken < 3; taken++) {
                int as = taken;
                if (as == sort) {
                    e.is("sort " + sort + " for itself", made.get().lay(0, as, 0), 0);
                } else {
                    e.refused("sort " + sort + " for " + as, made, b -> b.lay(0, as, 0), OTHER);
                    e.refused("sort " + sort + " for " + as + ", outside", made, b -> b.lay(0, as, 3), OTHER);
                }
            }
        }

        e.promise(39, "-11;");
        for (int sort = 0; sort < 3; sort++) {
            int one = sort;
            e.refused("a missing one", good, b -> b.lay(1, one, 0), NOTHING);
            e.refused("a missing one, outside", good, b -> b.lay(1, one, -1), NOTHING);
            WayBook b = good.get();
            b.sheet(1, sort, 3);
            b.cell(1, 0, 7);
            e.is("not missing any more", b.lay(1, sort, 0), 0);
            b.sheet(1, -1, 0);
            e.is("missing again", b.lay(1, sort, 0), NOTHING);
        }

        e.promise(39, "-12;");
        for (int sort = 0; sort < 3; sort++) {
            int one = sort;
            e.range("item of five", 0, 2, () -> withItems(one, 0, 1, 5, 2, 7), (b, i) -> b.lay(0, one, i), OUTSIDE);
            e.range("item of three", 0, 0, () -> withSheet(one, 3), (b, i) -> b.lay(0, one, i), OUTSIDE);
            e.range("item of two", 0, -1, () -> withSheet(one, 2), (b, i) -> b.lay(0, one, i), OUTSIDE);
            e.range("item of none", 0, -1, () -> withSheet(one, 0), (b, i) -> b.lay(0, one, i), OUTSIDE);
            e.range("item of forty", 0, 37, () -> withSheet(one, 40), (b, i) -> b.lay(0, one, i), OUTSIDE);
            e.refused("MAX - 1", () -> withSheet(one, 40), b -> b.lay(0, one, MAX - 1), OUTSIDE);
            e.refused("-2", () -> withSheet(one, 40), b -> b.lay(0, one, -2), OUTSIDE);
            e.refused("-3", () -> withSheet(one, 40), b -> b.lay(0, one, -3), OUTSIDE);
        }
    }

    private static void layAsRoad(Edge e) {
        e.promise(39, "then as road().");
        e.range("post a", 0, 7, () -> withItems(2, 0, 0, 0), (b, a) -> laid(b, a, a == 0 ? 1 : 0, 0), BAD);
        e.range("post b", 0, 7, () -> withItems(2, 0, 0, 0), (b, x) -> laid(b, x == 0 ? 1 : 0, x, 0), BAD);
        e.range("weight", -50, 50, () -> withItems(2, 0, 0, 0), (b, w) -> laid(b, 0, 1, w), BAD);
        e.refused("a = b", () -> withItems(0, 3, 3, 0), b -> b.lay(0, 0, 0), BAD);
        e.is("a is one less", withItems(0, 2, 3, 0).lay(0, 0, 0), 0);
        Supplier<WayBook> twelve = () -> {
            WayBook b = Nets.cube();
            b.sheet(0, 0, 6);
            b.cell(0, 1, 1);
            b.cell(0, 3, 7);
            return b;
        };
        e.refused("there is one", twelve, b -> b.lay(0, 0, 0), STATE);
        e.refused("a 13th", twelve, b -> b.lay(0, 0, 3), FULL);
        WayBook c = twelve.get();
        c.close();
        e.is("the twelfth", c.lay(0, 0, 3), 11);
        e.is("there is one now", c.lay(0, 0, 3), STATE);
    }

    /** A ROAD of these three numbers; as a range goes through them, a refusal must leave SHEET 0 as it was. */
    private static int laid(WayBook b, int a, int x, int weight) {
        b.sheet(5, 2, 3);
        b.cell(5, 0, a);
        b.cell(5, 1, x);
        b.cell(5, 2, weight);
        int road = b.lay(5, 2, 0);
        b.sheet(5, -1, 0);
        return road;
    }

    private static void shelf(Edge e) {
        e.promise(40, "A SHELF holds FAMILY n (what 0),");
        WayBook b = Nets.rich();
        for (int kind = 0; kind < 6; kind++) {
            e.is("family " + kind, b.shelf(5, 0, kind), 1);
            e.is("it is held", b.taken(5, kind), N[kind]);
        }
        WayBook thirty = Nets.families(30);
        e.is("the last of thirty", thirty.shelf(0, 0, 29), 1);
        e.is("its one way", thirty.taken(0, 0), 1);
        e.is("the one without ways", thirty.shelf(0, 0, 6), 1);
        e.is("none", thirty.taken(0, 0), 0);

        e.promise(40, "the row of SHEET n as it is (1; nothing, if it is missing),");
        int[] lengths = {5, 4, 40};
        for (int sheet = 0; sheet < 3; sheet++) {
            e.is("the row of " + sheet, b.shelf(4, 1, sheet), 1);
            e.is("its length", b.taken(4, 6 + sheet), lengths[sheet]);
        }
        b.sheet(0, 0, 0);
        b.shelf(4, 1, 0);
        e.is("a row of none is one", b.taken(4, 6), 0);
        e.is("the row of a missing one", b.shelf(4, 1, 5), 1);
        e.is("nothing", b.taken(4, 6), NOTHING);

        e.promise(40, "nothing (2): 1.");
        for (int n : new int[] {MIN, -1, 0, 5, 6, 30, MAX}) {
            WayBook c = Nets.rich();
            e.is("shelf(0, 2, " + n + ")", c.shelf(0, 2, n), 1);
            e.is("nothing", c.taken(0, 5), NOTHING);
            e.is("the one beside it stays", c.taken(1, 7), 4);
            e.is("nothing again", c.shelf(0, 2, n), 1);
        }
    }

    private static void shelfRefused(Edge e) {
        e.promise(40, "BAD.");
        for (int each = 0; each < 3; each++) {
            int what = each;
            e.range("shelf, what " + what, 0, 5, Nets::rich, (b, shelf) -> b.shelf(shelf, what, 0), BAD);
        }
        e.range("what", 0, 2, Nets::rich, (b, what) -> b.shelf(0, what, 0), BAD);
        e.families("shelf(0, 0, ..)", Nets::rich, (b, n) -> b.shelf(0, 0, n), BAD);
        e.families("shelf(0, 0, ..) of thirty", () -> Nets.families(30), (b, n) -> b.shelf(0, 0, n), BAD);
        e.families("shelf(0, 0, ..) of none", () -> Nets.posts(8), (b, n) -> b.shelf(0, 0, n), BAD);
        e.range("shelf(0, 1, ..)", 0, 5, Nets::rich, (b, n) -> b.shelf(0, 1, n), BAD);
        e.range("shelf(0, 1, ..), all missing", 0, 5, WayBook::new, (b, n) -> b.shelf(0, 1, n), BAD);
    }

    private static void taken(Edge e) {
        e.promise(41, "What a SHELF holds, taken for as 0 .. 5 a FAMILY of that KIND (or one that is it, too): "
            + "how many WAYS;");
        String[] are = {"0", "01", "012", "03", "04", "035"};
        for (int kind = 0; kind < 6; kind++) {
            WayBook b = Nets.rich();
            b.shelf(3, 0, kind);
            for (int as = 0; as < 6; as++) {
                boolean is = are[kind].indexOf('0' + as) >= 0;
                e.is("kind " + kind + " for " + as, b.taken(3, as), is ? N[kind] : OTHER);
            }
        }
        WayBook c = Nets.stars(1);
        c.shelf(0, 0, c.all(4095));
        e.is("4096", c.taken(0, 0), 4096);
        c.shelf(0, 0, c.tell(-1));
        e.is("0", c.taken(0, 0), 0);

        e.promise(41, "6, 7, 8 a row of bytes, shorts, ints: how many items.");
        for (int sort = 0; sort < 3; sort++) {
            for (int n : new int[] {0, 1, 39, 40}) {
                WayBook b = withSheet(sort, n);
                b.shelf(5, 1, 0);
                for (int as = 6; as < 9; as++) {
                    e.is(n + " of sort " + sort + " for " + as, b.taken(5, as), as == 6 + sort ? n : OTHER);
                }
            }
        }
    }

    private static void takenRefused(Edge e) {
        e.promise(41, "BAD;");
        e.range("shelf", 0, 5, Nets::rich, (b, shelf) -> b.taken(shelf, 0), BAD);
        e.range("shelf, for a row", 0, 5, WayBook::new, (b, shelf) -> b.taken(shelf, 8), BAD);
        e.range("as, of a family", 0, 8, Nets::rich, (b, as) -> b.taken(0, as), BAD);
        e.range("as, of a row", 0, 8, Nets::rich, (b, as) -> b.taken(1, as), BAD);
        e.range("as, of nothing", 0, 8, Nets::rich, (b, as) -> b.taken(2, as), BAD);

        e.promise(41, "-13;");
        for (int each = 0; each < 9; each++) {
            int as = each;
            if (as < 6) {
                e.refused("a row for " + as, Nets::rich, b -> b.taken(1, as), OTHER);
            } else {
                e.refused("a family for " + as, Nets::rich, b -> b.taken(0, as), OTHER);
            }
        }
        e.is("parts for themselves", Nets.rich().taken(0, 5), 3);
        e.refused("parts for the kind one less", Nets::rich, b -> b.taken(0, 4), OTHER);
        e.is("shorts for themselves", Nets.rich().taken(1, 7), 4);
        e.refused("shorts for bytes", Nets::rich, b -> b.taken(1, 6), OTHER);
        e.refused("shorts for ints", Nets::rich, b -> b.taken(1, 8), OTHER);

        e.promise(41, "-11: it holds nothing (which is taken for any).");
        for (int each = 0; each < 9; each++) {
            int as = each;
            e.refused("nothing for " + as, Nets::rich, b -> b.taken(2, as), NOTHING);
            WayBook b = Nets.rich();
            b.shelf(0, 2, 0);
            e.is("nothing any more for " + as, b.taken(0, as), NOTHING);
        }
    }

    private static void act(Edge e) {
        e.promise(42, "An ACT of a FAMILY with x: what it answers.");
        WayBook b = Nets.families(30);
        e.is("the first", b.act(0, FITS, 5), 13);
        e.is("the last of thirty", b.act(29, FITS, 5), 6);
        e.is("without ways", b.act(6, JOINS, 5), 15);
        e.is("it may be 0", b.act(6, FITS, 0), 0);
        e.is("with a TRACE", b.there(4), 1);
        e.is("the least act", b.act(5, 0, 5), 15);
        e.is("the greatest act", b.act(5, 2, 5), (5 + 3 + 3 + 7) * 6 - (6 + 3 + 7));

        e.promise(42, "0, and no TRACE then: no such FAMILY, act.");
        int[][] none = {{-1, 0}, {6, 0}, {30, 0}, {MIN, 1}, {MAX, 2}, {0, -1}, {0, 3}, {5, MIN}, {5, MAX}, {6, 3}};
        for (int[] one : none) {
            WayBook c = Nets.rich();
            String call = "act(" + one[0] + ", " + one[1] + ", 5)";
            e.is(call, c.act(one[0], one[1], 5), 0);
            e.is(call + ": no bodies", c.there(4), 0);
            e.is(call + ": no first one", c.trace(0), NONE);
            c.act(5, 2, 5);
            e.is("as one that was not asked", Look.at(c).equals(Look.at(weighed())) ? 1 : 0, 1);
        }
        e.is("none at all", new WayBook().act(0, 0, 5), 0);
        e.is("thirty", Nets.families(30).act(30, 0, 5), 0);
    }

    private static WayBook weighed() {
        WayBook b = Nets.rich();
        b.act(5, 2, 5);
        return b;
    }

    private static void trace(Edge e) {
        e.promise(43, "THE TRACE's i-th body;");
        WayBook b = Nets.rich();
        int[] due = {21, 12, 30, 11, 20, 10, 20, 10, 20, 10};
        b.act(2, WEIGHS, 1);
        for (int i = 0; i < due.length; i++) {
            e.is("body " + i, b.trace(i), due[i]);
        }
        b.drop();
        b.write(0);
        e.is("it stays", b.trace(9), 10);

        e.promise(43, "NONE: there is none such.");
        e.range("body of ten", 0, 9, HostEdges::tenBodies, WayBook::trace, NONE);
        e.range("body of one", 0, 0, HostEdges::oneBody, WayBook::trace, NONE);
        e.range("body of none", 0, -1, WayBook::new, WayBook::trace, NONE);
    }

    private static WayBook tenBodies() {
        WayBook b = Nets.rich();
        b.act(2, WEIGHS, 1);
        return b;
    }

    private static WayBook oneBody() {
        WayBook b = Nets.rich();
        b.act(0, FITS, 1);
        return b;
    }
}
