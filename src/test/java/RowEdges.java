import java.util.function.Supplier;

/** The edges of THE BOOK and THE ROWS: Terms 2, promises 33 to 36. */
final class RowEdges {
    private static final int BAD = -2;
    private static final int MIN = Integer.MIN_VALUE, MAX = Integer.MAX_VALUE;
    private static final int ROAD = 0, NO = 1, YES = 2, COUNT = 3;

    private RowEdges() {
    }

    static void run(Edge e) {
        noneAndAll(e);
        leastRoad(e);
        alikeIsOne(e);
        greatBook(e);
        counts(e);
        numbers(e);
        noSideFirst(e);
        aRow(e);
        wrongRoad(e);
        wrongLeads(e);
        wrongAbove(e);
        wrongYes(e);
        wrongTwice(e);
        wrongCount(e);
        leastThatHolds(e);
        write(e);
        row(e);
        forge(e);
        checkFirst(e);
        checkFine(e);
        checkOther(e);
        checkRefused(e);
    }

    private static void rows(Edge e, String call, WayBook b, int f, int[]... due) {
        e.is(call + ": how many rows", b.write(f), due.length);
        for (int i = 0; i < due.length; i++) {
            for (int what = 0; what < 4; what++) {
                e.is(call + ": row " + i + ", " + what, b.row(i, what), due[i][what]);
            }
        }
    }

    // ---- terms

    private static void noneAndAll(Edge e) {
        e.terms(2, "THE BOOK of a FAMILY: one without WAYS is NONE, one with just the WAY without ROADS is ALL; "
            + "any other is a KNOT:");
        WayBook b = Nets.stars(1);
        rows(e, "none", b, b.tell(-1));
        rows(e, "bare", b, b.tell(0));
        rows(e, "one road", b, b.tell(2048), new int[] {11, -1, -2, 1});
        rows(e, "bare and one road", b, b.all(2048), new int[] {11, -2, -2, 2});
        e.is("knots of none", b.told(0, 1), 0);
        e.is("knots of bare", b.told(1, 1), 0);
        e.is("knots of one road", b.told(2, 1), 1);
    }

    private static void leastRoad(Edge e) {
        e.terms(2, "it asks for r, the least ROAD that some WAY has, and leads by no to THE BOOK of the WAYS without r, "
            + "by yes to that of the WAYS with r, r taken from each.");
        for (int road = 0; road < 12; road++) {
            WayBook b = Nets.stars(1);
            rows(e, "just " + road, b, b.tell(1 << road), new int[] {road, -1, -2, 1});
            if (road < 11) {
                rows(e, road + " and the last", b, b.tell(1 << road | 2048),
                    new int[] {11, -1, -2, 1}, new int[] {road, -1, 0, 1});
                rows(e, road + " or the last", b, Nets.family(b, 1 << road, 2048),
                    new int[] {11, -1, -2, 1}, new int[] {road, 0, -2, 2});
                rows(e, road + ", just some have it", b, Nets.family(b, 1 << road | 2048, 2048, 0),
                    new int[] {11, -2, -2, 2}, new int[] {11, -1, -2, 1}, new int[] {road, 0, 1, 3});
            }
        }
    }

    private static void alikeIsOne(Edge e) {
        e.terms(2, "KNOTS of a BOOK: it and all to which it leads, those alike (of the same WAYS) being one.");
        WayBook b = Nets.stars(1);
        int all = b.all(4095);
        e.is("all of twelve", b.told(all, 1), 12);
        e.is("all but the last", b.told(b.join(2, all, b.tell(4095)), 1), 11 + 11);
        e.is("two lead to one", b.told(Nets.family(b, 5, 6), 1), 3);
        e.is("two lead to two", b.told(Nets.family(b, 5, 10), 1), 4);
        e.is("by no and by yes to one", b.told(Nets.family(b, 4, 5), 1), 2);
        WayBook c = Nets.complete(5);
        e.is("the trees of five posts", c.told(c.trees(1), 1), 49);
    }

    private static final int[][] GREAT_ROADS = {
        {1, 6, 5}, {2, 5, 9}, {7, 3, 43}, {7, 4, 2}, {6, 5, -27}, {2, 1, 31},
        {0, 6, -46}, {2, 4, 27}, {0, 4, 15}, {6, 7, -16}, {2, 3, 5}, {7, 5, -25}
    };
    private static final String GREAT_CALLS = "all 4095, tell -1, within 0 143 163, join 1 1 2, within 0 -80 -57, "
        + "join 1 3 4, within 0 -15 -1, join 1 5 6, within 0 34 103, join 1 7 8, by 2 9 4, join 1 9 10, join 0 9 10, "
        + "join 2 11 12, by 2 9 8, join 1 13 14, join 0 13 14, join 2 15 16, by 2 17 2, join 1 17 18, join 0 17 18, "
        + "join 2 19 20, by 2 21 5, join 1 21 22, join 0 21 22, join 2 23 24, by 2 9 11, join 1 25 26, join 0 25 26, "
        + "join 2 27 28";
    private static final int GREAT = 29;
    private static final int ROWS_A_BOOK = 110;

    /** Makes FAMILY 29, a tangle of 737 KNOTS (765 are the most that any could have), in some fifty calls. */
    private static <B> B great(B book) {
        for (int p = 0; p < 8; p++) {
            RandomRunsTest.answer(book, "post", 0);
        }
        for (int[] road : GREAT_ROADS) {
            RandomRunsTest.answer(book, "road", road);
        }
        for (String call : GREAT_CALLS.split(", ")) {
            String[] words = call.split(" ");
            int[] numbers = new int[words.length - 1];
            for (int i = 0; i < numbers.length; i++) {
                numbers[i] = Integer.parseInt(words[i + 1]);
            }
            RandomRunsTest.answer(book, words[0], numbers);
        }
        RandomRunsTest.answer(book, "write", GREAT);
        return book;
    }

    /** All ROWS are as PlainBook has them; no book is asked for more of them than its 512 calls can tell. */
    private static void greatBook(Edge e) {
        e.terms(2, "KNOTS of a BOOK: it and all to which it leads, those alike (of the same WAYS) being one.");
        PlainBook plain = great(new PlainBook());
        WayBook b = great(new WayBook());
        e.is("knots", b.told(GREAT, 1), 737);
        e.is("rows", b.there(3), plain.there(3));
        e.is("they are its own", b.check(GREAT), -1);
        for (int i = 0; i < 737; i++) {
            if (i % ROWS_A_BOOK == 0) {
                b = great(new WayBook());
            }
            for (int what = 0; what < 4; what++) {
                e.is("row " + i + ", " + what, b.row(i, what), plain.row(i, what));
            }
        }
        e.is("row 737", b.row(737, 0), BAD);
        e.is("turned", b.turned(GREAT, 5), plain.turned(GREAT, 5));
    }

    /** WayBook looks rows up by a mark that these two ROADS, no 33 and yes 34 share, as few others do. */
    private static void likeMarks(Edge e) {
        int[][] roads = {{1, 0}, {0, 1}, {0, 0}, {1, 1}};
        for (int[] two : roads) {
            WayBook b = great(new WayBook());
            int count = b.row(33, COUNT) + b.row(34, COUNT);
            for (int i = 0; i < 2; i++) {
                b.forge(735 + i, ROAD, two[i]);
                b.forge(735 + i, NO, 33);
                b.forge(735 + i, YES, 34);
                b.forge(735 + i, COUNT, count);
            }
            e.is("among many, roads " + two[0] + " and " + two[1], b.check(GREAT), two[0] == two[1] ? 8 * 736 + 4 : -3);
        }
    }

    private static void counts(Edge e) {
        e.terms(2, "Its COUNT: how many WAYS.");
        WayBook b = Nets.stars(1);
        b.write(b.all(4095));
        for (int i = 0; i < 12; i++) {
            e.is("of knot " + i, b.row(i, COUNT), 2 << i);
        }
        b.write(b.tell(1));
        e.is("of one way", b.row(0, COUNT), 1);
        b.write(b.join(2, 0, b.tell(0)));
        e.is("of 4095", b.row(b.there(3) - 1, COUNT), 4095);
    }

    private static void numbers(Edge e) {
        e.terms(2, "THE ROWS are, of a BOOK that is written: its KNOTS, numbered from 0 on:");
        for (int f = 0; f < 6; f++) {
            WayBook b = Nets.rich();
            int knots = b.told(f, 1);
            e.is("as many as knots", b.write(f), knots);
            e.isNot("the first", b.row(0, ROAD), BAD);
            e.isNot("the last", b.row(knots - 1, ROAD), BAD);
            e.is("one more", b.row(knots, ROAD), BAD);
            e.is("one less", b.row(-1, ROAD), BAD);
        }
    }

    private static void noSideFirst(Edge e) {
        e.terms(2, "of each KNOT first all of its no side that have no number yet, then all of its yes side likewise, "
            + "then it (the uppermost one is last).");
        WayBook b = Nets.complete(4);
        rows(e, "no, then yes, then it", b, Nets.family(b, 0b100010, 0b010001),
            new int[] {5, -1, -2, 1}, new int[] {1, -1, 0, 1},
            new int[] {4, -1, -2, 1}, new int[] {0, 1, 2, 2});
        rows(e, "yes has a number already", b, Nets.family(b, 0b100, 0b110, 0b101),
            new int[] {2, -1, -2, 1}, new int[] {1, 0, 0, 2}, new int[] {0, 1, 0, 3});
        rows(e, "no has none", b, b.tell(0b111),
            new int[] {2, -1, -2, 1}, new int[] {1, -1, 0, 1}, new int[] {0, -1, 1, 1});
    }

    private static void aRow(Edge e) {
        e.terms(2, "A ROW is: its ROAD, where no leads (a KNOT's number, -1 NONE, -2 ALL), where yes does, COUNT.");
        WayBook b = Nets.stars(1);
        rows(e, "no to ALL", b, b.all(1), new int[] {0, -2, -2, 2});
        rows(e, "no to NONE", b, b.tell(1), new int[] {0, -1, -2, 1});
        rows(e, "no to knot 0", b, Nets.family(b, 1, 2048), new int[] {11, -1, -2, 1}, new int[] {0, 0, -2, 2});
        rows(e, "yes to knot 0, no to ALL", b, Nets.family(b, 2049, 0),
            new int[] {11, -1, -2, 1}, new int[] {0, -2, 0, 2});
    }

    /** The ROWS of all sets of three ROADS: each leads twice to the one ahead; COUNTS 2, 4, 8. */
    private static WayBook chain() {
        WayBook b = Nets.complete(3);
        b.all(7);
        b.write(0);
        return b;
    }

    private static void forged(Edge e, int i, int what, int v, int due) {
        WayBook b = chain();
        b.forge(i, what, v);
        e.is("row " + i + ", " + what + " is " + v, b.check(0), due);
    }

    private static void wrongRoad(Edge e) {
        e.terms(2, "A ROW is WRONG: 1 its ROAD is not 0 .. 11,");
        for (int road : new int[] {-1, -2, 12, 13, MIN, MAX}) {
            forged(e, 0, ROAD, road, 1);
            forged(e, 2, ROAD, road, 17);
        }
        forged(e, 0, ROAD, 11, -3);
        forged(e, 0, ROAD, 10, -3);
        forged(e, 2, ROAD, 0, -1);
        WayBook b = Nets.complete(3);
        b.write(b.tell(4));
        b.forge(0, ROAD, 0);
        e.is("0 is none", b.check(0), -3);
        b.forge(0, ROAD, -1);
        e.is("-1 is", b.check(0), 1);
    }

    private static void wrongLeads(Edge e) {
        e.terms(2, "no or yes is not -2 .. its number less 1;");
        for (int side = NO; side <= YES; side++) {
            for (int i = 0; i < 3; i++) {
                for (int v : new int[] {-3, -4, i, i + 1, MIN, MAX}) {
                    forged(e, i, side, v, 8 * i + 1);
                }
            }
        }
        forged(e, 0, NO, -2, -1);
        forged(e, 0, NO, -1, 5);
        forged(e, 0, YES, -2, -1);
        forged(e, 1, NO, 0, -1);
        forged(e, 1, NO, -2, 13);
        forged(e, 2, YES, 1, -1);
        forged(e, 2, YES, 0, 21);
        forged(e, 2, YES, -2, 21);
    }

    private static void wrongAbove(Edge e) {
        e.terms(2, "2 the ROAD of a KNOT to which it leads is not above its own;");
        forged(e, 1, ROAD, 3, 10);
        forged(e, 1, ROAD, 2, 10);
        forged(e, 1, ROAD, 1, -1);
        forged(e, 2, ROAD, 2, 18);
        forged(e, 2, ROAD, 1, 18);
        forged(e, 2, ROAD, 0, -1);
        forged(e, 0, ROAD, 3, -3);
        forged(e, 0, ROAD, 1, 10);
        for (int side = NO; side <= YES; side++) {
            WayBook b = chain();
            b.forge(1, ROAD, 2);
            b.forge(1, NO + YES - side, -2);
            b.forge(1, COUNT, 3);
            e.is("just side " + side + " leads to one of its own road", b.check(0), 10);
        }
        WayBook last = Nets.stars(1);
        last.write(last.tell(2048));
        e.is("ALL has no road", last.check(0), -1);
    }

    private static void wrongYes(Edge e) {
        e.terms(2, "3 yes leads to NONE;");
        for (int i = 0; i < 3; i++) {
            forged(e, i, YES, -1, 8 * i + 3);
        }
        forged(e, 0, YES, -2, -1);
        forged(e, 1, YES, 0, -1);
        forged(e, 1, NO, -1, 13);
        WayBook b = chain();
        b.forge(0, YES, -1);
        b.forge(0, COUNT, 1);
        e.is("its COUNT may be the sum", b.check(0), 3);
    }

    /** A book whose ROWS are these, forged: as many as those of all sets of so many ROADS. */
    private static WayBook withRows(int[]... rows) {
        WayBook b = Nets.stars(1);
        b.write(b.all((1 << rows.length) - 1));
        for (int i = 0; i < rows.length; i++) {
            for (int what = 0; what < 4; what++) {
                b.forge(i, what, rows[i][what]);
            }
        }
        return b;
    }

    private static void third(Edge e, String call, int due, int road, int no, int yes, int count) {
        WayBook b = withRows(new int[] {5, -2, -2, 2}, new int[] {3, -2, 0, 3},
            new int[] {road, no, yes, count}, new int[] {0, 1, 2, 3 + count});
        e.is(call, b.check(0), due);
    }

    private static void wrongTwice(Edge e) {
        e.terms(2, "4 a ROW ahead of it has the same ROAD, no and yes;");
        likeMarks(e);
        third(e, "all three", 20, 3, -2, 0, 3);
        third(e, "COUNT is not asked", 20, 3, -2, 0, 9);
        third(e, "one road more", -3, 4, -2, 0, 3);
        third(e, "one road less", -3, 2, -2, 0, 3);
        third(e, "another no", -3, 3, -1, 0, 2);
        third(e, "a knot for no", -3, 3, 0, 0, 4);
        third(e, "another yes", -3, 3, -2, -2, 2);
        third(e, "no and yes change places", -3, 3, 0, -2, 3);
        WayBook b = withRows(new int[] {5, -2, -2, 2}, new int[] {3, -2, 0, 3},
            new int[] {4, -2, 0, 3}, new int[] {3, -2, 0, 3});
        e.is("two ahead, not one", b.check(0), 28);
        WayBook c = withRows(new int[] {5, -2, -2, 2}, new int[] {5, -2, -2, 2});
        e.is("the first two", c.check(0), 12);
    }

    private static void wrongCount(Edge e) {
        e.terms(2, "5 COUNT is not the sum of those where no and yes lead (NONE 0, ALL 1;");
        int[] counts = {2, 4, 8};
        for (int i = 0; i < 3; i++) {
            for (int v : new int[] {counts[i] - 1, counts[i] + 1, 0, -counts[i], MIN, MAX}) {
                forged(e, i, COUNT, v, 8 * i + 5);
            }
            forged(e, i, COUNT, counts[i], -1);
        }
        WayBook b = Nets.complete(3);
        b.write(b.tell(4));
        e.is("NONE 0, ALL 1", b.check(0), -1);
        b.forge(0, COUNT, 2);
        e.is("one more", b.check(0), 5);
        b.forge(0, COUNT, 0);
        e.is("one less", b.check(0), 5);

        e.terms(2, "ints that wrap).");
        // Of the first ROW that is WRONG all leads are right: its sum is 4096 at most (NOTES.md). The nearest to it:
        WayBook c = Nets.stars(1);
        c.write(c.all(4095));
        c.forge(11, COUNT, 4096);
        e.is("the greatest sum", c.check(0), -1);
        c.forge(10, COUNT, MAX);
        c.forge(11, COUNT, -2);
        e.is("what leads to a wrong one is not looked at", c.check(0), 85);
    }

    private static void leastThatHolds(Edge e) {
        e.terms(2, "The least that holds.");
        WayBook b = chain();
        b.forge(1, COUNT, 0);
        e.is("5", b.check(0), 13);
        b.forge(1, ROAD, 2);
        b.forge(1, NO, -2);
        b.forge(1, YES, -2);
        e.is("4 and 5", b.check(0), 12);
        b.forge(1, YES, -1);
        e.is("3 and 5", b.check(0), 11);
        b.forge(1, NO, 0);
        e.is("2, 3 and 5", b.check(0), 10);
        b.forge(1, ROAD, 12);
        e.is("1, 2, 3 and 5", b.check(0), 9);
        b.forge(1, ROAD, 2);
        b.forge(1, YES, -3);
        e.is("1 by yes", b.check(0), 9);
        b.forge(0, COUNT, 0);
        e.is("5 of the row ahead", b.check(0), 5);
    }

    // ---- promises

    private static void write(Edge e) {
        e.promise(33, "THE ROWS are those of f's BOOK: how many.");
        WayBook b = Nets.stars(1);
        e.is("of all", b.write(b.all(4095)), 12);
        e.is("there are", b.there(3), 12);
        e.is("of none", b.write(b.tell(-1)), 0);
        e.is("there are none", b.there(3), 0);
        e.refused("row 0 of none", RowEdges::noRows, x -> x.row(0, 0), BAD);
        e.is("of bare", b.write(b.tell(0)), 0);
        e.is("of one road", b.write(b.tell(1)), 1);
        e.is("written again", b.write(0), 12);
        b.forge(0, COUNT, 77);
        e.is("written anew", b.write(0), 12);
        e.is("as it was", b.row(0, COUNT), 2);
        b.drop();
        b.close();
        e.is("they stay", b.there(3), 12);

        e.promise(33, "BAD.");
        e.families("write of none", () -> Nets.posts(8), WayBook::write, BAD);
        e.families("write of six", Nets::rich, WayBook::write, BAD);
        e.families("write of thirty", () -> Nets.families(30), WayBook::write, BAD);
    }

    private static WayBook noRows() {
        WayBook b = chain();
        b.write(b.tell(-1));
        return b;
    }

    private static WayBook twelveRows() {
        WayBook b = Nets.stars(1);
        b.write(b.all(4095));
        return b;
    }

    private static void row(Edge e) {
        e.promise(34, "Of ROW i: what 0 ROAD, 1 no, 2 yes, 3 COUNT.");
        WayBook b = twelveRows();
        int[][] due = {{11, -2, -2, 2}, {10, 0, 0, 4}, {1, 9, 9, 2048}, {0, 10, 10, 4096}};
        int[] at = {0, 1, 10, 11};
        for (int i = 0; i < 4; i++) {
            for (int what = 0; what < 4; what++) {
                e.is("row(" + at[i] + ", " + what + ")", b.row(at[i], what), due[i][what]);
            }
        }

        e.promise(34, "BAD: no such ROW,");
        for (int each = 0; each < 4; each++) {
            int what = each;
            for (int i : new int[] {-1, 12, 13, 767, 768, MIN, MAX}) {
                e.refused("row(" + i + ", " + what + ")", RowEdges::twelveRows, x -> x.row(i, what), BAD);
            }
            e.refused("no rows, row(0, " + what + ")", RowEdges::noRows, x -> x.row(0, what), BAD);
            e.refused("never written, row(0, " + what + ")", WayBook::new, x -> x.row(0, what), BAD);
        }
        e.is("the last", twelveRows().row(11, COUNT), 4096);
        e.is("the first", twelveRows().row(0, COUNT), 2);

        e.promise(34, "what.");
        e.range("what of the only one", 0, 3, () -> withRows(new int[] {5, 5, 5, 5}), (x, what) -> x.row(0, what), BAD);
        e.range("what of the last", 0, 3, RowEdges::twelveRows, (x, what) -> x.row(11, what), BAD);

        e.promise(34, "(It may be -2, too.)");
        e.is("no to ALL", chain().row(0, NO), -2);
        WayBook c = chain();
        for (int what = 0; what < 4; what++) {
            for (int v = -3; v <= -1; v++) {
                c.forge(2, what, v);
                e.is("it is " + v, c.row(2, what), v);
            }
        }
    }

    private static WayBook oneRow() {
        WayBook b = Nets.stars(1);
        b.write(b.tell(2048));
        return b;
    }

    private static void forge(Edge e) {
        e.promise(35, "A number of ROW i becomes v: 1.");
        int[] at = {0, 11};
        for (int i : at) {
            for (int what = 0; what < 4; what++) {
                for (int v : new int[] {MIN, -3, -2, -1, 0, 1, 12, MAX}) {
                    WayBook b = twelveRows();
                    e.is("forge(" + i + ", " + what + ", " + v + ")", b.forge(i, what, v), 1);
                    e.is("it is so", b.row(i, what), v);
                    e.is("not in the row beside it", b.row(i == 0 ? 1 : 10, what), twelveRows().row(i == 0 ? 1 : 10, what));
                    e.is("not the number beside it", b.row(i, (what + 1) % 4), twelveRows().row(i, (what + 1) % 4));
                    e.is("the family stays", b.count(0), 4096);
                }
            }
        }

        e.promise(35, "BAD.");
        for (int each = 0; each < 4; each++) {
            int what = each;
            e.range("row of twelve", 0, 11, RowEdges::twelveRows, (b, i) -> b.forge(i, what, 5), BAD);
            e.range("row of one", 0, 0, RowEdges::oneRow, (b, i) -> b.forge(i, what, 5), BAD);
            e.range("row of none", 0, -1, RowEdges::noRows, (b, i) -> b.forge(i, what, 5), BAD);
            e.range("never written", 0, -1, WayBook::new, (b, i) -> b.forge(i, what, 5), BAD);
        }
        e.range("what", 0, 3, RowEdges::oneRow, (b, what) -> b.forge(0, what, 5), BAD);
    }

    private static void checkFirst(Edge e) {
        e.promise(36, "The first ROW that is WRONG: 8 times its number, and how;");
        for (int i = 11; i >= 0; i--) {
            WayBook b = twelveRows();
            b.forge(i, COUNT, 0);
            e.is("row " + i, b.check(0), 8 * i + 5);
            b.forge(i, ROAD, -1);
            e.is("row " + i + ", 1", b.check(0), 8 * i + 1);
            if (i < 11) {
                b.forge(i + 1, ROAD, -1);
                e.is("row " + i + ", and the next", b.check(0), 8 * i + 1);
                b.forge(i, ROAD, 11 - i);
                b.forge(i, COUNT, 2 << i);
                e.is("just the next", b.check(0), 8 * i + 9);
            }
        }
    }

    private static void checkFine(Edge e) {
        e.promise(36, "-1: none is WRONG, and they are just the ROWS that write() would make of f;");
        for (int f = 0; f < 6; f++) {
            WayBook b = Nets.rich();
            b.write(f);
            e.is("of " + f, b.check(f), -1);
        }
        WayBook b = twelveRows();
        e.is("of another one of the same ways", b.check(b.all(4095)), -1);
        WayBook c = noRows();
        e.is("no rows, none", c.check(1), -1);
        e.is("no rows, bare", c.check(c.tell(0)), -1);
        WayBook d = chain();
        d.write(d.tell(1));
        d.forge(0, ROAD, 2);
        e.is("forged into those of another", d.check(d.tell(4)), -1);
        WayBook never = new WayBook();
        e.is("never written, none", never.check(never.tell(-1)), -1);
        e.is("never written, bare", never.check(never.tell(0)), -1);
    }

    private static void checkOther(Edge e) {
        e.promise(36, "-3: none is WRONG, but they are not.");
        WayBook b = chain();
        e.is("one way less", b.check(b.join(2, 0, b.tell(0))), -3);
        e.is("one road less", b.check(b.all(3)), -3);
        e.is("none", b.check(b.tell(-1)), -3);
        e.is("bare", b.check(b.tell(0)), -3);
        WayBook c = noRows();
        e.is("no rows, one road", c.check(c.tell(1)), -3);
        WayBook never = Nets.chain(2);
        e.is("never written, one road", never.check(never.tell(1)), -3);
        WayBook d = Nets.complete(3);
        d.write(Nets.family(d, 5, 2));
        int[][] swapped = {{2, -1, -2, 1}, {1, -1, -2, 1}, {0, 1, 0, 2}};
        e.is("as written", d.check(d.there(2) - 1), -1);
        for (int i = 0; i < 3; i++) {
            for (int what = 0; what < 4; what++) {
                d.forge(i, what, swapped[i][what]);
            }
        }
        e.is("right ones in another order", d.check(d.there(2) - 1), -3);
    }

    private static void checkRefused(Edge e) {
        e.promise(36, "-2 BAD: no such FAMILY;");
        e.families("check", Nets::rich, WayBook::check, BAD);
        e.families("check of thirty", () -> Nets.families(30), WayBook::check, BAD);
        e.families("check of none", () -> Nets.posts(8), WayBook::check, BAD);
        Supplier<WayBook> wrong = () -> {
            WayBook b = chain();
            b.forge(0, ROAD, -1);
            return b;
        };
        e.is("a row is WRONG", wrong.get().check(0), 1);
        e.refused("a row is WRONG, no such family", wrong, b -> b.check(1), BAD);
    }
}
