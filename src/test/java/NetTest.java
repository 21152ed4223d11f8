/** Promises 1 to 5, 18, 19 and 44: a new object, THE NET, what goes, how many there are. */
public final class NetTest {
    private static final Due DUE = new Due("NetTest");
    private static final int NONE = -1, BAD = -2, STATE = -3, FULL = -4;
    private static final int MIN = Integer.MIN_VALUE, MAX = Integer.MAX_VALUE;

    public static void main(String[] args) {
        constants();
        newObject();
        post();
        road();
        odds();
        roadOf();
        drop();
        close();
        there();
        DUE.end();
    }

    private static void constants() {
        DUE.promise(1, "the face");
        DUE.is("NONE", WayBook.NONE, -1);
        DUE.is("BAD", WayBook.BAD, -2);
        DUE.is("STATE", WayBook.STATE, -3);
        DUE.is("FULL", WayBook.FULL, -4);
    }

    private static void newObject() {
        DUE.promise(1, "new");
        WayBook b = new WayBook();
        for (int what = 0; what < 5; what++) {
            DUE.is("there(" + what + ")", b.there(what), 0);
        }
        DUE.is("road(0, 1, 0)", b.road(0, 1, 0), BAD);
        DUE.is("odds(0, 4)", b.odds(0, 4), BAD);
        DUE.is("roadOf(0, 0)", b.roadOf(0, 0), BAD);
        DUE.is("count(0)", b.count(0), BAD);
        DUE.is("drop()", b.drop(), BAD);
        DUE.is("close()", b.close(), BAD);
        DUE.is("row(0, 0)", b.row(0, 0), BAD);
        DUE.is("trace(0)", b.trace(0), NONE);
        DUE.is("taken(0, 0)", b.taken(0, 0), -11);
        DUE.is("cell(0, 0, 0)", b.cell(0, 0, 0), -11);
        DUE.is("first family", b.tell(0), 0);
        DUE.is("another object has none", new WayBook().count(0), BAD);
    }

    private static void post() {
        DUE.promise(2, "post");
        WayBook b = new WayBook();
        DUE.is("post(-1)", b.post(-1), BAD);
        DUE.is("post(100)", b.post(100), BAD);
        DUE.is("post(MIN)", b.post(MIN), BAD);
        DUE.is("post(MAX)", b.post(MAX), BAD);
        DUE.is("none was made", b.there(0), 0);
        int[] loads = {0, 99, 5, 5, 1, 2, 3, 4};
        for (int p = 0; p < 8; p++) {
            DUE.is("post(" + loads[p] + ")", b.post(loads[p]), p);
        }
        DUE.is("ninth", b.post(0), FULL);
        DUE.is("ninth, bad load", b.post(100), BAD);
        DUE.is("still eight", b.there(0), 8);
    }

    private static void road() {
        DUE.promise(3, "road");
        WayBook b = Nets.posts(8);
        DUE.is("first", b.road(3, 1, -50), 0);
        DUE.is("second", b.road(1, 2, 50), 1);
        DUE.is("a none such", b.road(8, 1, 0), BAD);
        DUE.is("b none such", b.road(1, 8, 0), BAD);
        DUE.is("a below 0", b.road(-1, 1, 0), BAD);
        DUE.is("b below 0", b.road(1, -1, 0), BAD);
        DUE.is("a = b", b.road(4, 4, 0), BAD);
        DUE.is("weight -51", b.road(0, 4, -51), BAD);
        DUE.is("weight 51", b.road(0, 4, 51), BAD);
        DUE.is("weight MIN", b.road(0, 4, MIN), BAD);
        DUE.is("there is one", b.road(3, 1, 0), STATE);
        DUE.is("there is one the other way", b.road(1, 3, 0), STATE);
        DUE.is("bad weight where there is one", b.road(1, 3, 51), BAD);
        DUE.is("two so far", b.there(1), 2);
        int made = 2;
        for (int a = 4; a < 8; a++) {
            for (int p = 0; p < 4 && made < 12; p++) {
                DUE.is("road " + made, b.road(a, p, 0), made);
                made++;
            }
        }
        DUE.is("thirteenth", b.road(0, 1, 0), FULL);
        DUE.is("there is one, and full", b.road(1, 3, 0), STATE);
        DUE.is("bad, and full", b.road(0, 1, 51), BAD);
        DUE.is("still twelve", b.there(1), 12);
    }

    private static void odds() {
        DUE.promise(4, "odds");
        WayBook b = Nets.ring(3);
        DUE.is("at first 4", b.odds(0, 0), 4);
        DUE.is("then 0", b.odds(0, 8), 0);
        DUE.is("e -1", b.odds(0, -1), BAD);
        DUE.is("e 9", b.odds(0, 9), BAD);
        DUE.is("no such road", b.odds(3, 1), BAD);
        DUE.is("road -1", b.odds(-1, 1), BAD);
        DUE.is("still 8", b.odds(0, 5), 8);
        DUE.is("the others stay", b.odds(1, 4), 4);
        DUE.is("another's too", b.odds(2, 3), 4);
        b.close();
        b.road(0, 2, 1);
        DUE.is("a new road has 4 again", b.odds(2, 3), 4);
    }

    private static void roadOf() {
        DUE.promise(5, "roadOf");
        WayBook b = Nets.posts(5);
        b.road(4, 1, -7);
        b.road(0, 3, -2);
        b.odds(1, 6);
        DUE.is("lesser", b.roadOf(0, 0), 1);
        DUE.is("other", b.roadOf(0, 1), 4);
        DUE.is("weight", b.roadOf(0, 2), -7);
        DUE.is("odds", b.roadOf(0, 3), 4);
        DUE.is("lesser of 1", b.roadOf(1, 0), 0);
        DUE.is("other of 1", b.roadOf(1, 1), 3);
        DUE.is("weight of 1", b.roadOf(1, 2), -2);
        DUE.is("odds of 1", b.roadOf(1, 3), 6);
        DUE.is("what 4", b.roadOf(0, 4), BAD);
        DUE.is("what -1", b.roadOf(0, -1), BAD);
        DUE.is("road 2", b.roadOf(2, 0), BAD);
        DUE.is("road -1", b.roadOf(-1, 0), BAD);
        b.close();
        DUE.is("closed", b.roadOf(1, 0), BAD);
    }

    private static void drop() {
        DUE.promise(18, "drop");
        WayBook b = Nets.ring(3);
        DUE.is("none there", b.drop(), BAD);
        b.rounds(false);
        b.trees(1);
        b.tell(-1);
        DUE.is("third goes", b.drop(), 2);
        DUE.is("it is gone", b.count(2), BAD);
        DUE.is("second stays", b.count(1), 3);
        DUE.is("second goes", b.drop(), 1);
        DUE.is("its number comes again", b.pairs(false), 1);
        DUE.is("with its own ways", b.count(1), 4);
        DUE.is("its kind", b.told(1, 0), 4);
        DUE.is("goes", b.drop(), 1);
        DUE.is("first goes", b.drop(), 0);
        DUE.is("none left", b.drop(), BAD);
        DUE.is("there are none", b.there(2), 0);
        for (int f = 0; f < 30; f++) {
            b.tell(0);
        }
        DUE.is("full", b.tell(0), FULL);
        DUE.is("room again", b.drop(), 29);
        DUE.is("one more", b.tell(0), 29);
    }

    private static void close() {
        DUE.promise(19, "close");
        WayBook b = Nets.complete(3);
        int f = b.trees(1);
        DUE.is("last goes", b.close(), 2);
        DUE.ways("the family stays", b, f, 6, 5, 3);
        DUE.is("its number is none such", b.odds(2, 1), BAD);
        DUE.is("no more trees with it", b.count(b.trees(1)), 1);
        DUE.is("between the same two again", b.road(1, 2, 20), 2);
        DUE.is("weight now", b.total(f), 2 * (1 + 2 + 20));
        DUE.is("goes", b.close(), 2);
        DUE.is("goes", b.close(), 1);
        DUE.is("goes", b.close(), 0);
        DUE.is("none there", b.close(), BAD);
        DUE.is("there are none", b.there(1), 0);
        DUE.is("posts stay", b.there(0), 3);
    }

    private static void there() {
        DUE.promise(44, "there");
        WayBook b = Nets.complete(4);
        b.trees(1);
        b.rounds(false);
        DUE.is("rows written", b.write(0), b.told(0, 1));
        b.act(0, 0, 1);
        DUE.is("posts", b.there(0), 4);
        DUE.is("roads", b.there(1), 6);
        DUE.is("families", b.there(2), 2);
        DUE.is("rows", b.there(3), b.told(0, 1));
        DUE.is("bodies", b.there(4), 1);
        DUE.is("what 5", b.there(5), BAD);
        DUE.is("what -1", b.there(-1), BAD);
        b.drop();
        b.close();
        DUE.is("families less one", b.there(2), 1);
        DUE.is("roads less one", b.there(1), 5);
        DUE.is("rows stay", b.there(3), b.told(0, 1));
    }
}
