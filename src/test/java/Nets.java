/** Nets that several tests use. */
final class Nets {
    private Nets() {
    }

    /** POSTS with LOADS 1, 2, 3 .. and no ROADS. */
    static WayBook posts(int n) {
        WayBook book = new WayBook();
        for (int p = 0; p < n; p++) {
            book.post(p + 1);
        }
        return book;
    }

    /** A ROAD between every two of n POSTS, in the order 01, 02, .. 12, 13 ..; WEIGHTS 1, 2, 3 .. */
    static WayBook complete(int n) {
        WayBook book = posts(n);
        int weight = 1;
        for (int a = 0; a < n; a++) {
            for (int b = a + 1; b < n; b++) {
                book.road(a, b, weight);
                weight++;
            }
        }
        return book;
    }

    /** A ring of n POSTS: ROAD r leads from POST r to the next one; all WEIGHTS 1. */
    static WayBook ring(int n) {
        WayBook book = posts(n);
        for (int p = 0; p < n; p++) {
            book.road(p, (p + 1) % n, 1);
        }
        return book;
    }

    /** The cube: 8 POSTS, 12 ROADS, between POSTS whose numbers differ in one bit. */
    static WayBook cube() {
        WayBook book = posts(8);
        for (int bit = 1; bit < 8; bit <<= 1) {
            for (int p = 0; p < 8; p++) {
                if ((p & bit) == 0) {
                    book.road(p, p | bit, bit);
                }
            }
        }
        return book;
    }

    /** A FAMILY of just these WAYS; between times others are made. */
    static int family(WayBook book, int... masks) {
        int f = book.tell(-1);
        for (int mask : masks) {
            int one = book.tell(mask);
            f = book.join(1, f, one);
            if (f < 0) {
                throw new IllegalStateException("the book is full: the test needs another one");
            }
        }
        return f;
    }
}
