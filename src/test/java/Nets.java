import java.util.ArrayList;
import java.util.List;

/** Nets that several tests use. */
final class Nets {
    private Nets() {
    }

    /** POSTS with LOADS 1, 2, 3 .. and no ROADS. */
    static WayBook posts(int n) {
        WayBook book = new WayBook();
        for (int p = 0; p < n; p++) {
            book.post(p + 1);
        }
        return book;
    }

    /** A ROAD between every two of n POSTS, in the order 01, 02, .. 12, 13 ..; WEIGHTS 1, 2, 3 .. */
    static WayBook complete(int n) {
        WayBook book = posts(n);
        int weight = 1;
        for (int a = 0; a < n; a++) {
            for (int b = a + 1; b < n; b++) {
                book.road(a, b, weight);
                weight++;
            }
        }
        return book;
    }

    /** A chain of n POSTS: ROAD r leads from POST r to the next one; all WEIGHTS 1. */
    static WayBook chain(int n) {
        WayBook book = posts(n);
        for (int p = 0; p < n - 1; p++) {
            book.road(p, p + 1, 1);
        }
        return book;
    }

    /** A ring of n POSTS: ROAD r leads from POST r to the next one; all WEIGHTS 1. */
    static WayBook ring(int n) {
        WayBook book = posts(n);
        for (int p = 0; p < n; p++) {
            book.road(p, (p + 1) % n, 1);
        }
        return book;
    }

    /** Rings of POSTS 0, 1, 2, 3 with LOADS 1, 2, 3, 4, their ROADS made in each of the 24 orders. */
    static List<WayBook> ringsOfFour() {
        List<WayBook> rings = new ArrayList<>();
        for (int order = 0; order < 256; order++) {
            WayBook book = posts(4);
            int made = 0;
            for (int i = 0; i < 4; i++) {
                int p = order >> 2 * i & 3;
                made += book.road(p, (p + 1) % 4, 0) >= 0 ? 1 : 0;
            }
            if (made == 4) {
                rings.add(book);
            }
        }
        return rings;
    }

    /** The cube: 8 POSTS, 12 ROADS, between POSTS whose numbers differ in one bit. */
    static WayBook cube() {
        WayBook book = posts(8);
        for (int bit = 1; bit < 8; bit <<= 1) {
            for (int p = 0; p < 8; p++) {
                if ((p & bit) == 0) {
                    book.road(p, p | bit, bit);
                }
            }
        }
        return book;
    }

    /** Two rings of three POSTS that share POST 2: ROADS 0 .. 2 are one, 3 .. 5 the other. */
    static WayBook bow() {
        WayBook book = posts(5);
        book.road(0, 1, 1);
        book.road(1, 2, 1);
        book.road(2, 0, 1);
        book.road(2, 3, 1);
        book.road(3, 4, 1);
        book.road(4, 2, 1);
        return book;
    }

    /** stars(1) with just the first n ROADS. */
    static WayBook starsOf(int n) {
        WayBook book = stars(1);
        for (int roads = 12; roads > n; roads--) {
            book.close();
        }
        return book;
    }

    /** starsOf(n) with a FAMILY of just the WAY without ROADS. */
    static WayBook starsWithBare(int n) {
        WayBook book = starsOf(n);
        book.tell(0);
        return book;
    }

    /** A star and a part of another one: ROADS 0 .. 6 are at POST 0, 7 .. 11 at POST 1; all WEIGHTS alike. */
    static WayBook stars(int weight) {
        WayBook book = posts(8);
        for (int p = 1; p < 8; p++) {
            book.road(0, p, weight);
        }
        for (int p = 2; p < 7; p++) {
            book.road(1, p, weight);
        }
        return book;
    }

    /** Something of everything: three POSTS and ROADS, a FAMILY of each KIND, ROWS, a TRACE, SHEETS, SHELVES. */
    static WayBook rich() {
        WayBook book = complete(3);
        book.odds(1, 6);
        book.all(7);
        book.paths(0, 1, false);
        book.rounds(false);
        book.trees(1);
        book.pairs(false);
        book.parts(2, 0, 99);
        book.write(3);
        book.act(2, 1, 5);
        book.sheet(0, 0, 5);
        book.cell(0, 1, 1);
        book.cell(0, 2, 7);
        book.sheet(1, 1, 4);
        book.sheet(2, 2, 40);
        book.shelf(0, 0, 5);
        book.shelf(1, 1, 1);
        return book;
    }

    /** A rich() book with so many FAMILIES; of those added one has no WAYS, the others just ROAD 2. */
    static WayBook families(int n) {
        WayBook book = rich();
        book.tell(-1);
        for (int f = book.there(2); f < n; f++) {
            book.tell(4);
        }
        return book;
    }

    /** A FAMILY of just these WAYS; between times others are made. */
    static int family(WayBook book, int... masks) {
        int f = book.tell(-1);
        for (int mask : masks) {
            int one = book.tell(mask);
            f = book.join(1, f, one);
            if (f < 0) {
                throw new IllegalStateException("the book is full: the test needs another one");
            }
        }
        return f;
    }
}
