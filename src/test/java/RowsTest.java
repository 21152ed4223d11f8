/** Promises 33 to 36: THE ROWS. */
public final class RowsTest {
    private static final Due DUE = new Due("RowsTest");
    private static final int BAD = -2;
    private static final int MIN = Integer.MIN_VALUE, MAX = Integer.MAX_VALUE;
    private static final int ROAD = 0, NO = 1, YES = 2, COUNT = 3;
    /** THE ROWS of the trees of three POSTS: {1, 2}, {0, 2}, {0, 1}. */
    private static final int[][] TREES = {{2, -1, -2, 1}, {1, -1, 0, 1}, {1, 0, -2, 2}, {0, 1, 2, 3}};

    public static void main(String[] args) {
        write();
        forge();
        checkFine();
        checkRoad();
        checkLeads();
        checkAbove();
        checkYes();
        checkTwice();
        checkCount();
        checkOrder();
        DUE.end();
    }

    private static WayBook trees() {
        WayBook b = Nets.complete(3);
        b.trees(1);
        b.write(0);
        return b;
    }

    private static void write() {
        DUE.promise(33, "write");
        WayBook b = Nets.complete(3);
        b.trees(1);
        DUE.is("none so far", b.there(3), 0);
        DUE.is("no such", b.write(1), BAD);
        DUE.is("-1", b.write(-1), BAD);
        DUE.is("trees", b.write(0), 4);
        DUE.is("there", b.there(3), 4);
        DUE.is("no such changes nothing", b.write(29), BAD);
        DUE.promise(34, "row");
        for (int i = 0; i < 4; i++) {
            for (int what = 0; what < 4; what++) {
                DUE.is("row(" + i + ", " + what + ")", b.row(i, what), TREES[i][what]);
            }
        }
        DUE.is("row 4", b.row(4, 0), BAD);
        DUE.is("row -1", b.row(-1, 0), BAD);
        DUE.is("row MAX", b.row(MAX, 0), BAD);
        DUE.is("what 4", b.row(0, 4), BAD);
        DUE.is("what -1", b.row(0, -1), BAD);
        DUE.promise(33, "write");
        b.drop();
        b.close();
        DUE.is("they stay when the family goes", b.row(3, COUNT), 3);
        DUE.is("without ways", b.write(b.tell(-1)), 0);
        DUE.is("no row 0 now", b.row(0, 0), BAD);
        DUE.is("the bare way", b.write(b.tell(0)), 0);
        DUE.is("one road", b.write(b.tell(2)), 1);
        DUE.is("its road", b.row(0, ROAD), 1);
        DUE.is("its no", b.row(0, NO), -1);
        DUE.is("its yes", b.row(0, YES), -2);
        WayBook c = Nets.cube();
        c.all(4095);
        DUE.is("all of twelve", c.write(0), 12);
        DUE.is("both lead to the next", c.row(11, NO), c.row(11, YES));
        DUE.is("4096", c.row(11, COUNT), 4096);
    }

    private static void forge() {
        DUE.promise(35, "forge");
        WayBook b = trees();
        DUE.is("forge", b.forge(1, NO, 77), 1);
        DUE.is("it is so", b.row(1, NO), 77);
        DUE.is("the others stay", b.row(1, YES), 0);
        DUE.is("the others stay", b.row(2, NO), 0);
        DUE.is("any number", b.forge(1, COUNT, MIN), 1);
        DUE.is("it is so", b.row(1, COUNT), MIN);
        DUE.is("-2", b.forge(0, ROAD, -2), 1);
        DUE.is("row may be -2", b.row(0, ROAD), -2);
        DUE.is("row 4", b.forge(4, 0, 0), BAD);
        DUE.is("row -1", b.forge(-1, 0, 0), BAD);
        DUE.is("what 4", b.forge(0, 4, 0), BAD);
        DUE.is("what -1", b.forge(0, -1, 0), BAD);
        DUE.is("the family stays", b.count(0), 3);
        DUE.is("its book stays", b.told(0, 1), 4);
        DUE.is("written anew", b.write(0), 4);
        DUE.is("as it was", b.check(0), -1);
        DUE.is("no rows", new WayBook().forge(0, 0, 0), BAD);
    }

    private static void checkFine() {
        DUE.promise(36, "check");
        WayBook b = trees();
        b.rounds(false);
        b.tell(-1);
        b.tell(0);
        DUE.is("its own", b.check(0), -1);
        DUE.is("another's", b.check(1), -3);
        DUE.is("without ways", b.check(2), -3);
        DUE.is("no such", b.check(4), BAD);
        DUE.is("-1", b.check(-1), BAD);
        DUE.is("still its own", b.check(0), -1);
        DUE.is("rows stay", b.there(3), 4);
        b.write(2);
        DUE.is("no rows, none", b.check(2), -1);
        DUE.is("no rows, bare", b.check(3), -1);
        DUE.is("no rows, trees", b.check(0), -3);
        b.write(0);
        b.forge(0, ROAD, -9);
        DUE.is("wrong rows, no such family", b.check(29), BAD);
        DUE.is("wrong for another, too", b.check(1), 1);
        b.forge(2, ROAD, -9);
        DUE.is("the first one that is wrong", b.check(0), 1);
        b.forge(0, ROAD, 2);
        DUE.is("then the next", b.check(0), 2 * 8 + 1);
        int joined = b.join(1, 0, b.tell(0));
        b.write(0);
        DUE.is("like but for one way", b.check(joined), -3);
    }

    private static void forged(int i, int what, int v, int due) {
        WayBook b = trees();
        b.forge(i, what, v);
        DUE.is("row " + i + ", " + what + " is " + v, b.check(0), due);
    }

    private static void checkRoad() {
        DUE.promise(36, "check, wrong 1: road");
        forged(0, ROAD, -1, 1);
        forged(0, ROAD, 12, 1);
        forged(3, ROAD, MIN, 25);
        forged(3, ROAD, MAX, 25);
        DUE.promise(36, "check, another road");
        forged(0, ROAD, 11, -3);
        forged(3, ROAD, 0, -1);
    }

    private static void checkLeads() {
        DUE.promise(36, "check, wrong 1: leads");
        forged(0, NO, -3, 1);
        forged(0, NO, 0, 1);
        forged(0, YES, 0, 1);
        forged(0, YES, -3, 1);
        forged(3, NO, 3, 25);
        forged(3, YES, 4, 25);
        forged(3, NO, MAX, 25);
        forged(3, YES, MIN, 25);
    }

    private static void checkAbove() {
        DUE.promise(36, "check, wrong 2");
        forged(1, ROAD, 2, 10);
        forged(1, ROAD, 3, 10);
        forged(2, ROAD, 2, 18);
        forged(3, ROAD, 1, 26);
        WayBook b = trees();
        b.forge(1, ROAD, 2);
        b.forge(1, COUNT, 50);
        DUE.is("the least that holds", b.check(0), 10);
    }

    private static void checkYes() {
        DUE.promise(36, "check, wrong 3");
        forged(0, YES, -1, 3);
        forged(2, YES, -1, 19);
        forged(3, YES, -1, 27);
        WayBook b = trees();
        b.forge(2, YES, -1);
        b.forge(2, ROAD, 2);
        DUE.is("2 comes first", b.check(0), 18);
    }

    private static void checkTwice() {
        DUE.promise(36, "check, wrong 4");
        WayBook b = trees();
        b.forge(2, NO, -1);
        b.forge(2, YES, 0);
        b.forge(2, COUNT, 1);
        DUE.is("row 2 as row 1", b.check(0), 20);
        b.forge(2, COUNT, 9);
        DUE.is("whatever COUNT", b.check(0), 20);
        b.forge(2, NO, -2);
        b.forge(2, COUNT, 2);
        DUE.is("another no: none is wrong", b.check(0), -3);
        WayBook c = trees();
        c.forge(1, ROAD, 2);
        c.forge(1, YES, -2);
        DUE.is("row 1 as row 0", c.check(0), 12);
        c.forge(1, ROAD, 3);
        DUE.is("another road: none is wrong", c.check(0), -3);
    }

    private static void checkCount() {
        DUE.promise(36, "check, wrong 5");
        forged(0, COUNT, 0, 5);
        forged(2, COUNT, 3, 21);
        forged(3, COUNT, 4, 29);
        forged(3, COUNT, 3, -1);
        WayBook b = trees();
        b.forge(0, NO, -2);
        DUE.is("ALL counts 1", b.check(0), 5);
        b.forge(0, COUNT, 2);
        DUE.is("then the next is wrong", b.check(0), 13);
        b.forge(1, COUNT, 2);
        b.forge(2, COUNT, 3);
        b.forge(3, COUNT, 5);
        DUE.is("none is wrong, but not of trees", b.check(0), -3);
        int f = Nets.family(b, 2, 6, 1, 5, 3);
        DUE.is("they are of another", b.check(f), -1);
    }

    /** Right ROWS in another order are not just those that write() makes. */
    private static void checkOrder() {
        DUE.promise(36, "check, another order");
        WayBook b = trees();
        int[][] swapped = {{2, -1, -2, 1}, {1, 0, -2, 2}, {1, -1, 0, 1}, {0, 2, 1, 3}};
        for (int i = 0; i < 4; i++) {
            for (int what = 0; what < 4; what++) {
                b.forge(i, what, swapped[i][what]);
            }
        }
        DUE.is("swapped", b.check(0), -3);
    }
}
