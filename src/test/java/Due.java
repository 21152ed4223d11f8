/** Compares answers with those that are due, and ends the test with exit code 1 if one was another. */
final class Due {
    private final String test;
    private String promise = "";
    private int asked;
    private int wrong;

    Due(String test) {
        this.test = test;
    }

    /** What follows belongs to this promise. */
    void promise(int number, String name) {
        promise = "promise " + number + " (" + name + ")";
    }

    void is(String call, long answer, long due) {
        asked++;
        if (answer != due) {
            wrong++;
            System.out.println(test + ", " + promise + ": " + call + " answered " + answer + ", due is " + due);
        }
    }

    /** All WAYS of a FAMILY in THE ORDER, and no more. */
    void ways(String call, WayBook book, int f, int... masks) {
        is(call + ": count", book.count(f), masks.length);
        for (int i = 0; i < masks.length; i++) {
            is(call + ": way " + i, book.way(f, i), masks[i]);
        }
        is(call + ": the way behind the last", book.way(f, masks.length), WayBook.NONE);
    }

    void end() {
        System.out.println(test + ": " + asked + " answers, " + wrong + " wrong");
        if (wrong != 0) {
            System.exit(1);
        }
    }
}
