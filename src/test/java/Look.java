/** All that can be asked of a book, as one text. It changes the book: none is looked at twice. */
final class Look {
    private static final int MOST_ROWS = 12;

    private Look() {
    }

    static String at(WayBook book) {
        StringBuilder seen = new StringBuilder("there");
        for (int what = 0; what < 5; what++) {
            seen.append(' ').append(book.there(what));
        }
        atRoads(book, seen);
        atFamilies(book, seen);
        atRows(book, seen);
        atTrace(book, seen);
        atShelves(book, seen);
        atSheets(book, seen);
        return seen.toString();
    }

    private static void atRoads(WayBook book, StringBuilder seen) {
        seen.append("; roads");
        int roads = book.there(1);
        for (int road = 0; road < roads; road++) {
            for (int what = 0; what < 4; what++) {
                seen.append(' ').append(book.roadOf(road, what));
            }
        }
    }

    private static void atFamilies(WayBook book, StringBuilder seen) {
        seen.append("; families");
        int families = book.there(2);
        for (int f = 0; f < families; f++) {
            int count = book.count(f);
            seen.append(' ').append(count).append('/').append(book.told(f, 0)).append('/').append(book.told(f, 1));
            seen.append('/').append(book.way(f, 0)).append('/').append(book.way(f, count - 1));
        }
    }

    private static void atRows(WayBook book, StringBuilder seen) {
        seen.append("; rows");
        int rows = Math.min(book.there(3), MOST_ROWS);
        for (int i = 0; i < rows; i++) {
            for (int what = 0; what < 4; what++) {
                seen.append(' ').append(book.row(i, what));
            }
        }
    }

    private static void atTrace(WayBook book, StringBuilder seen) {
        seen.append("; trace");
        int bodies = book.there(4);
        for (int i = 0; i < bodies; i++) {
            seen.append(' ').append(book.trace(i));
        }
    }

    private static void atShelves(WayBook book, StringBuilder seen) {
        seen.append("; shelves");
        for (int shelf = 0; shelf < 6; shelf++) {
            for (int as = 0; as < 9; as++) {
                seen.append(' ').append(book.taken(shelf, as));
            }
        }
    }

    /** A SHEET's sort and length are those of the row that a SHELF takes, its items those of a ROAD. */
    private static void atSheets(WayBook book, StringBuilder seen) {
        int roads = book.there(1);
        for (int road = 0; road < roads; road++) {
            book.close();
        }
        seen.append("; sheets");
        for (int sheet = 0; sheet < 6; sheet++) {
            book.shelf(0, 1, sheet);
            for (int sort = 0; sort < 3; sort++) {
                int length = book.taken(0, 6 + sort);
                seen.append(' ').append(length);
                if (length >= 0) {
                    atItems(book, seen, sheet, sort);
                }
            }
        }
    }

    private static void atItems(WayBook book, StringBuilder seen, int sheet, int sort) {
        int road = book.lay(sheet, sort, 0);
        seen.append(" laid ").append(road);
        if (road >= 0) {
            for (int what = 0; what < 3; what++) {
                seen.append(' ').append(book.roadOf(road, what));
            }
            book.close();
        }
    }
}
