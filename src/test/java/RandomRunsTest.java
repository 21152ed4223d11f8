import java.lang.reflect.Method;
import java.lang.reflect.Modifier;
import java.util.Arrays;

/** Long runs of calls drawn by a fixed rule: WayBook answers what PlainBook answers. All promises but 1. */
public final class RandomRunsTest {
    private static final int MOST_CALLS = 500;
    private static final int MAKERS = 12;

    private long state;
    private WayBook book;
    private PlainBook plain;
    private final StringBuilder told = new StringBuilder();

    private RandomRunsTest(long seed) {
        state = seed;
    }

    public static void main(String[] args) {
        int runs = args.length > 0 ? Integer.parseInt(args[0]) : 120;
        int first = args.length > 1 ? Integer.parseInt(args[1]) : 0;
        int wrong = 0;
        for (int run = first; run < first + runs; run++) {
            wrong += new RandomRunsTest(run * 7919L + 17).run(run);
        }
        System.out.println("RandomRunsTest: " + runs + " runs, " + wrong + " wrong");
        if (wrong != 0) {
            System.exit(1);
        }
    }

    /** A number from 0 to n - 1. */
    private int dice(int n) {
        state = state * 6364136223846793005L + 1442695040888963407L;
        return (int) Math.floorMod(state >>> 33, (long) n);
    }

    /** Mostly a number from low to high; now and then one outside. */
    private int near(int low, int high) {
        switch (dice(40)) {
            case 0: return low - 1;
            case 1: return high + 1;
            case 2: return dice(2) == 0 ? Integer.MIN_VALUE : Integer.MAX_VALUE;
            default: return high < low ? low : low + dice(high - low + 1);
        }
    }

    private int run(int run) {
        book = new WayBook();
        plain = new PlainBook();
        int posts = dice(9);
        int roads = dice(13);
        int calls = 0;
        for (int p = 0; p < posts; p++, calls++) {
            if (!say("post", near(0, 9))) {
                return fail(run);
            }
        }
        for (int r = 0; r < 3 * roads; r++, calls++) {
            if (plain.there(1) < roads && !net(1)) {
                return fail(run);
            }
        }
        for (; calls < MOST_CALLS; calls++) {
            if (!step()) {
                return fail(run);
            }
        }
        return 0;
    }

    private int fail(int run) {
        System.out.println("run " + run + ":\n" + told);
        return 1;
    }

    private boolean step() {
        if (plain.there(2) > 28 && dice(3) != 0) {
            return say("drop");
        }
        switch (dice(10)) {
            case 0: return net(dice(8));
            case 1: return make(dice(MAKERS));
            case 2: return make(dice(MAKERS));
            case 3: return make(5 + dice(MAKERS - 5));
            case 4: return ask(dice(13));
            case 5: return ask(dice(13));
            case 6: return ask(dice(13));
            case 7: return rows(dice(6));
            case 8: return host(dice(7));
            default: return acts(dice(4));
        }
    }

    private int family() {
        return near(0, plain.there(2) - 1);
    }

    private int mask() {
        int roads = plain.there(1);
        return dice(8) == 0 ? near(0, 4095) : dice(1 << roads);
    }

    private boolean net(int which) {
        int posts = plain.there(0);
        switch (which) {
            case 0: return say("post", near(0, 99));
            case 1: return say("road", near(0, posts - 1), near(0, posts - 1), near(-50, 50));
            case 2: return dice(6) == 0 ? say("close") : say("odds", near(0, plain.there(1) - 1), near(0, 8));
            case 3: return say("odds", near(0, plain.there(1) - 1), near(0, 8));
            case 4: return say("roadOf", near(0, plain.there(1) - 1), near(0, 3));
            case 5: return dice(4) == 0 ? say("drop") : say("there", near(0, 4));
            case 6: return say("there", near(0, 4));
            default: return say("road", near(0, posts - 1), near(0, posts - 1), near(-3, 3));
        }
    }

    private boolean make(int which) {
        int posts = plain.there(0);
        switch (which) {
            case 0: return say("tell", dice(9) == 0 ? -1 : mask());
            case 1: return say("all", mask());
            case 2: return say("paths", near(0, posts - 1), near(0, posts - 1), dice(3) / 2);
            case 3: return say("rounds", dice(3) / 2);
            case 4: return dice(2) == 0 ? say("trees", near(1, posts)) : say("pairs", dice(3) / 2);
            case 5: return say("parts", near(1, posts), near(0, 12), near(5, 60));
            case 6: return say("degrees", family(), near(0, posts - 1), near(0, 2), near(0, 4));
            case 7: return say("thin", near(0, 2), family());
            case 8: return say("by", near(0, 2), family(), near(0, dice(5) == 0 ? 11 : plain.there(1) - 1));
            case 9: return say("within", family(), near(-70, 40), near(-20, 90));
            default: return say("join", near(0, 7), family(), family());
        }
    }

    private boolean ask(int which) {
        int f = family();
        int count = Math.max(plain.count(f), 0);
        switch (which) {
            case 0: return say("count", f);
            case 1: return say("told", f, near(0, 2));
            case 2: return say("total", f);
            case 3: return say("often", f, near(0, 11));
            case 4: return say("has", f, dice(2) == 0 ? mask() : plain.way(f, dice(count + 1)));
            case 5: return say("way", f, near(0, count));
            case 6: return say("rank", f, near(0, 4095));
            case 7: return say("best", f, near(0, 1), near(0, count));
            case 8: return say("draw", f, dice(1 << 30) * 4 + dice(4));
            case 9: return say("same", f, dice(2) == 0 ? family() : f);
            case 10: return say("chance", f);
            case 11: return say("matters", f, near(0, plain.there(1) - 1));
            default: return say("turned", f, near(1, 12));
        }
    }

    private boolean rows(int which) {
        int rows = plain.there(3);
        switch (which) {
            case 0: return say("write", family());
            case 1: return say("row", near(0, rows - 1), near(0, 3));
            case 2: return forgeSome(rows);
            case 3: return forgeSome(rows);
            case 4: return say("check", family());
            default: return writeForgeCheck();
        }
    }

    private boolean forgeSome(int rows) {
        int what = near(0, 3);
        return say("forge", near(0, rows - 1), what, what == 0 ? near(0, 11) : near(-2, 9));
    }

    /** Often just one number is another, so that each way of being WRONG comes up. */
    private boolean writeForgeCheck() {
        int f = family();
        boolean fine = say("write", f) && say("check", f);
        int rows = plain.there(3);
        if (fine && rows > 0 && dice(4) != 0) {
            int i = dice(rows);
            int like = dice(rows);
            for (int what = dice(3); what < 4 && fine; what++) {
                int v = dice(2) == 0 ? plain.row(like, what) : near(-2, Math.max(i - 1, 3));
                fine = say("forge", i, what, v) && say("check", f);
            }
        }
        return fine && say("check", f);
    }

    private boolean host(int which) {
        switch (which) {
            case 0: return say("sheet", near(0, 5), near(-1, 2), near(0, 40));
            case 1: return say("cell", near(0, 5), near(0, 9), near(-300, 300));
            case 2: return say("cell", near(0, 5), near(0, 39), near(0, plain.there(0) - 1));
            case 3: return say("lay", near(0, 5), near(0, 2), near(0, 37));
            case 4: return say("shelf", near(0, 5), 0, family());
            case 5: return say("shelf", near(0, 5), near(0, 2), near(0, 5));
            default: return say("taken", near(0, 5), near(0, 8));
        }
    }

    private boolean acts(int which) {
        if (which == 0) {
            return say("trace", near(0, 10));
        }
        int x = dice(2) == 0 ? near(-9, 9) : dice(1 << 30) * 4 + dice(4);
        boolean fine = say("act", family(), near(0, 2), x) && say("there", 4);
        for (int i = 0; i <= plain.there(4) && fine; i++) {
            fine = say("trace", i);
        }
        return fine;
    }

    private boolean say(String name, int... x) {
        long due = answer(plain, name, x);
        long answer = answer(book, name, x);
        told.append("  ").append(name).append(Arrays.toString(x)).append(" -> ").append(due).append('\n');
        if (answer != due) {
            told.append("  .. but WayBook answered ").append(answer).append('\n');
        }
        return answer == due;
    }

    /** What a call of this name answers, on WayBook or on PlainBook. */
    static long answer(Object book, String name, int... x) {
        for (Method call : book.getClass().getDeclaredMethods()) {
            if (call.getName().equals(name) && !Modifier.isPrivate(call.getModifiers())) {
                Class<?>[] types = call.getParameterTypes();
                Object[] args = new Object[types.length];
                for (int i = 0; i < args.length; i++) {
                    if (types[i] == boolean.class) {
                        args[i] = x[i] != 0;
                    } else {
                        args[i] = x[i];
                    }
                }
                try {
                    return ((Number) call.invoke(book, args)).longValue();
                } catch (ReflectiveOperationException thrown) {
                    throw new IllegalStateException(name + Arrays.toString(x), thrown);
                }
            }
        }
        throw new IllegalArgumentException(name);
    }
}
