/** Promises 37 to 43: SHEETS, SHELVES, ACTS and THE TRACE. */
public final class HostTest {
    private static final Due DUE = new Due("HostTest");
    private static final int NONE = -1, BAD = -2, STATE = -3, FULL = -4;
    private static final int NOTHING = -11, OUTSIDE = -12, OTHER = -13, BELOW = -14;
    private static final int MIN = Integer.MIN_VALUE, MAX = Integer.MAX_VALUE;
    private static final int FITS = 0, JOINS = 1, WEIGHS = 2;

    public static void main(String[] args) {
        sheet();
        cell();
        cellBits();
        lay();
        shelf();
        shelfKeeps();
        taken();
        takenRows();
        act();
        trace();
        DUE.end();
    }

    private static void sheet() {
        DUE.promise(37, "sheet");
        WayBook b = Nets.posts(3);
        DUE.is("bytes", b.sheet(0, 0, 40), 1);
        DUE.is("shorts", b.sheet(5, 1, 0), 1);
        DUE.is("ints", b.sheet(3, 2, 3), 1);
        DUE.is("sheet 6", b.sheet(6, 0, 1), BAD);
        DUE.is("sheet -1", b.sheet(-1, 0, 1), BAD);
        DUE.is("sort 3", b.sheet(0, 3, 1), BAD);
        DUE.is("sort -2", b.sheet(0, -2, 1), BAD);
        DUE.is("n 41", b.sheet(0, 0, 41), BAD);
        DUE.is("n MAX", b.sheet(0, 0, MAX), BAD);
        DUE.is("n -1", b.sheet(0, 0, -1), BELOW);
        DUE.is("n MIN", b.sheet(0, 2, MIN), BELOW);
        DUE.is("sort 3, n -1", b.sheet(0, 3, -1), BAD);
        DUE.is("sheet 6, n -1", b.sheet(6, 0, -1), BAD);
        DUE.is("refused, it stays", b.cell(0, 39, 1), 1);
        DUE.is("missing, n 99", b.sheet(0, -1, 99), 1);
        DUE.is("it is missing", b.cell(0, 0, 1), NOTHING);
        DUE.is("missing, n -9", b.sheet(0, -1, -9), 1);
        DUE.is("missing, sheet 6", b.sheet(6, -1, 0), BAD);
        b.cell(3, 0, 1);
        b.cell(3, 1, 2);
        DUE.is("anew", b.sheet(3, 2, 3), 1);
        DUE.is("all 0", b.lay(3, 2, 0), BAD);
        b.cell(3, 1, 2);
        DUE.is("0 and 2", b.lay(3, 2, 0), 0);
        DUE.is("weight 0", b.roadOf(0, 2), 0);
    }

    private static void cell() {
        DUE.promise(38, "cell");
        WayBook b = new WayBook();
        b.sheet(2, 1, 4);
        DUE.is("first", b.cell(2, 0, 5), 1);
        DUE.is("last", b.cell(2, 3, 5), 1);
        DUE.is("behind the last", b.cell(2, 4, 5), OUTSIDE);
        DUE.is("-1", b.cell(2, -1, 5), OUTSIDE);
        DUE.is("MIN", b.cell(2, MIN, 5), OUTSIDE);
        DUE.is("MAX", b.cell(2, MAX, 5), OUTSIDE);
        DUE.is("missing", b.cell(1, 0, 5), NOTHING);
        DUE.is("missing, outside", b.cell(1, -1, 5), NOTHING);
        DUE.is("sheet 6", b.cell(6, 0, 5), BAD);
        DUE.is("sheet -1", b.cell(-1, 0, 5), BAD);
        b.sheet(0, 0, 0);
        DUE.is("without items", b.cell(0, 0, 5), OUTSIDE);
    }

    /** A WEIGHT tells what an item is. */
    private static void cellBits() {
        int[] values = {7, -50, 256 + 7, 65536 + 7, 255, 65535, -256 + 20, 128, 32768};
        int[][] due = {
            {7, 7, 7}, {-50, -50, -50}, {7, BAD, BAD}, {7, 7, BAD}, {-1, BAD, BAD}, {-1, -1, BAD},
            {20, BAD, BAD}, {BAD, BAD, BAD}, {0, BAD, BAD}
        };
        for (int i = 0; i < values.length; i++) {
            for (int sort = 0; sort < 3; sort++) {
                WayBook b = Nets.posts(2);
                b.sheet(0, sort, 3);
                b.cell(0, 1, 1);
                b.cell(0, 2, values[i]);
                int road = b.lay(0, sort, 0);
                String call = values[i] + " as sort " + sort;
                if (due[i][sort] == BAD) {
                    DUE.is(call, road, BAD);
                } else {
                    DUE.is(call, road, 0);
                    DUE.is(call, b.roadOf(0, 2), due[i][sort]);
                }
            }
        }
    }

    private static void lay() {
        DUE.promise(39, "lay");
        WayBook b = Nets.posts(8);
        b.sheet(0, 2, 5);
        int[] items = {4, 2, -9, 1, 3};
        for (int i = 0; i < 5; i++) {
            b.cell(0, i, items[i]);
        }
        DUE.is("items 0 to 2", b.lay(0, 2, 0), 0);
        DUE.is("lesser", b.roadOf(0, 0), 2);
        DUE.is("other", b.roadOf(0, 1), 4);
        DUE.is("weight", b.roadOf(0, 2), -9);
        DUE.is("there is one", b.lay(0, 2, 0), STATE);
        DUE.is("no such post", b.lay(0, 2, 1), BAD);
        DUE.is("a bad road", b.lay(0, 2, 2), BAD);
        DUE.is("up to outside", b.lay(0, 2, 3), OUTSIDE);
        DUE.is("outside", b.lay(0, 2, 5), OUTSIDE);
        DUE.is("-1", b.lay(0, 2, -1), OUTSIDE);
        DUE.is("MAX", b.lay(0, 2, MAX), OUTSIDE);
        DUE.is("MIN", b.lay(0, 2, MIN), OUTSIDE);
        DUE.is("another sort", b.lay(0, 1, 0), OTHER);
        DUE.is("another sort, outside", b.lay(0, 0, 9), OTHER);
        DUE.is("missing", b.lay(1, 2, 0), NOTHING);
        DUE.is("missing, outside", b.lay(1, 0, -1), NOTHING);
        DUE.is("sort 3", b.lay(0, 3, 0), BAD);
        DUE.is("sort -1", b.lay(0, -1, 0), BAD);
        DUE.is("missing, sort -1", b.lay(1, -1, 0), BAD);
        DUE.is("sheet 6", b.lay(6, 0, 0), BAD);
        DUE.is("sheet -1", b.lay(-1, 0, 0), BAD);
        b.sheet(2, 1, 2);
        DUE.is("too short", b.lay(2, 1, 0), OUTSIDE);
        b.sheet(2, 0, 3);
        b.cell(2, 1, 7);
        DUE.is("bytes", b.lay(2, 0, 0), 1);
        int made = 2;
        for (int p = 1; made < 12; p++) {
            b.road(p % 7, 7 - p % 2, 0);
            made = b.there(1);
        }
        b.cell(2, 1, 3);
        DUE.is("full", b.lay(2, 0, 0), FULL);
        DUE.is("twelve", b.there(1), 12);
    }

    private static void shelf() {
        DUE.promise(40, "shelf");
        WayBook b = Nets.complete(3);
        b.trees(1);
        b.sheet(4, 0, 7);
        DUE.is("a family", b.shelf(5, 0, 0), 1);
        DUE.is("held", b.taken(5, 3), 3);
        DUE.is("shelf 6", b.shelf(6, 0, 0), BAD);
        DUE.is("shelf -1", b.shelf(-1, 0, 0), BAD);
        DUE.is("what 3", b.shelf(5, 3, 0), BAD);
        DUE.is("what -1", b.shelf(5, -1, 0), BAD);
        DUE.is("no such family", b.shelf(5, 0, 1), BAD);
        DUE.is("family -1", b.shelf(5, 0, -1), BAD);
        DUE.is("no such sheet", b.shelf(5, 1, 6), BAD);
        DUE.is("sheet -1", b.shelf(5, 1, -1), BAD);
        DUE.is("refused, it stays", b.taken(5, 3), 3);
        DUE.is("a row", b.shelf(5, 1, 4), 1);
        DUE.is("held", b.taken(5, 6), 7);
        DUE.is("a missing row", b.shelf(5, 1, 0), 1);
        DUE.is("it holds nothing", b.taken(5, 6), NOTHING);
        b.shelf(5, 0, 0);
        DUE.is("nothing", b.shelf(5, 2, 0), 1);
        DUE.is("it holds nothing", b.taken(5, 0), NOTHING);
        DUE.is("nothing, any n", b.shelf(5, 2, -77), 1);
        DUE.is("nothing on no shelf", b.shelf(6, 2, 0), BAD);
    }

    private static void shelfKeeps() {
        WayBook b = Nets.complete(3);
        b.trees(1);
        b.shelf(0, 0, 0);
        b.drop();
        DUE.is("dropped, held on", b.taken(0, 3), 3);
        b.pairs(false);
        DUE.is("whatever has its number", b.taken(0, 3), 3);
        DUE.is("it is no other kind", b.taken(0, 4), OTHER);
        b.sheet(1, 1, 9);
        b.shelf(1, 1, 1);
        b.sheet(1, 2, 4);
        DUE.is("the row of then", b.taken(1, 7), 9);
        DUE.is("not that of now", b.taken(1, 8), OTHER);
        b.sheet(1, -1, 0);
        DUE.is("the row of then stays", b.taken(1, 7), 9);
        b.shelf(2, 1, 1);
        b.sheet(1, 0, 5);
        DUE.is("missing then", b.taken(2, 6), NOTHING);
    }

    private static void taken() {
        DUE.promise(41, "taken");
        WayBook b = Nets.complete(4);
        b.all(3);
        b.paths(0, 1, false);
        b.rounds(false);
        b.trees(1);
        b.pairs(false);
        b.parts(2, 0, 99);
        int[] counts = {4, 5, 7, 16, 10, 7};
        String[] kinds = {"0", "01", "012", "03", "04", "035"};
        for (int kind = 0; kind < 6; kind++) {
            b.shelf(kind, 0, kind);
            for (int as = 0; as < 9; as++) {
                boolean is = kinds[kind].indexOf('0' + as) >= 0;
                DUE.is("kind " + kind + " for " + as, b.taken(kind, as), is ? counts[kind] : OTHER);
            }
            DUE.is("as 9", b.taken(kind, 9), BAD);
            DUE.is("as -1", b.taken(kind, -1), BAD);
        }
        DUE.is("shelf 6", b.taken(6, 0), BAD);
        DUE.is("shelf -1", b.taken(-1, 0), BAD);
        b.shelf(0, 0, b.tell(-1));
        DUE.is("without ways", b.taken(0, 0), 0);
    }

    private static void takenRows() {
        WayBook b = new WayBook();
        for (int sort = 0; sort < 3; sort++) {
            b.sheet(sort, sort, 10 * sort);
            b.shelf(sort, 1, sort);
            for (int as = 0; as < 9; as++) {
                DUE.is("sort " + sort + " for " + as, b.taken(sort, as), as == 6 + sort ? 10 * sort : OTHER);
            }
        }
        for (int as = 0; as < 9; as++) {
            DUE.is("nothing for " + as, b.taken(3, as), NOTHING);
        }
        DUE.is("nothing for 9", b.taken(3, 9), BAD);
    }

    private static void acted(WayBook b, int f, int act, int x, int due, int... bodies) {
        String call = "act(" + f + ", " + act + ", " + x + ")";
        DUE.promise(42, "act");
        DUE.is(call, b.act(f, act, x), due);
        DUE.promise(44, "there");
        DUE.is(call + ": bodies", b.there(4), bodies.length);
        DUE.promise(43, "trace");
        for (int i = 0; i < bodies.length; i++) {
            DUE.is(call + ": body " + i, b.trace(i), bodies[i]);
        }
        DUE.is(call + ": no more", b.trace(bodies.length), NONE);
        DUE.is(call + ": body -1", b.trace(-1), NONE);
    }

    private static void act() {
        WayBook b = Nets.complete(4);
        b.all(3); // 4 WAYS
        b.paths(0, 1, false); // 5
        b.rounds(false); // 7
        b.trees(1); // 16
        b.pairs(false); // 10
        b.parts(2, 0, 99); // 7
        acted(b, 0, FITS, 5, 9, 10);
        acted(b, 0, JOINS, 5, 27, 11, 10);
        acted(b, 0, WEIGHS, 5, 27 - 10, 12, 11, 10, 10);
        acted(b, 1, FITS, 5, 20, 20, 10);
        acted(b, 1, JOINS, 5, 60, 11, 20, 10);
        acted(b, 1, WEIGHS, 5, (60 - 22) ^ 5, 21, 12, 11, 20, 10, 20, 10);
        acted(b, 2, FITS, 5, 24, 20, 10);
        acted(b, 2, JOINS, 5, 72 + 24, 30, 11, 20, 10, 20, 10);
        acted(b, 2, WEIGHS, 5, (96 - 26) ^ 5, 21, 12, 30, 11, 20, 10, 20, 10, 20, 10);
        acted(b, 3, FITS, 5, 21, 10);
        acted(b, 3, JOINS, 5, 37 * 3, 40, 11, 10);
        acted(b, 3, WEIGHS, 5, 111 - 22, 12, 40, 11, 10, 10);
        acted(b, 4, FITS, 5, 15, 10);
        acted(b, 4, JOINS, 5, 45, 11, 10);
        acted(b, 4, WEIGHS, 5, 15 - (45 - 16), 50, 10, 12, 11, 10, 10);
        acted(b, 5, FITS, 5, 19, 60, 10);
        acted(b, 5, JOINS, 5, (12 + 7 + 7) * 3 * 2, 61, 40, 11, 60, 10);
        acted(b, 5, WEIGHS, 5, 156 - 20, 12, 61, 40, 11, 60, 10, 60, 10);
        acted(b, 0, FITS, MAX, MIN + 3, 10);
        acted(b, 0, JOINS, MAX, (MIN + 3) * 3, 11, 10);
        acted(b, 0, WEIGHS, MIN, (MIN + 4) * 3 - (MIN + 5), 12, 11, 10, 10);
        acted(b, 6, FITS, 5, 0);
        b.act(0, 0, 0);
        acted(b, 0, 3, 5, 0);
        b.act(0, 0, 0);
        acted(b, 0, -1, 5, 0);
        b.act(0, 0, 0);
        acted(b, -1, FITS, 5, 0);
    }

    private static void trace() {
        DUE.promise(43, "trace");
        WayBook b = Nets.complete(3);
        DUE.is("none so far", b.trace(0), NONE);
        b.trees(1);
        b.act(0, JOINS, 1);
        b.count(0);
        b.drop();
        DUE.is("it stays while others are called", b.trace(0), 40);
        DUE.is("second", b.trace(1), 11);
        DUE.is("third", b.trace(2), 10);
        DUE.is("fourth", b.trace(3), NONE);
        DUE.is("40th", b.trace(40), NONE);
        DUE.is("MIN", b.trace(MIN), NONE);
        DUE.is("MAX", b.trace(MAX), NONE);
    }
}
