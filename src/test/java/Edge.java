import java.io.IOException;
import java.io.UncheckedIOException;
import java.nio.charset.StandardCharsets;
import java.nio.file.Files;
import java.nio.file.Path;
import java.util.ArrayList;
import java.util.LinkedHashMap;
import java.util.LinkedHashSet;
import java.util.List;
import java.util.Map;
import java.util.Set;
import java.util.function.Supplier;
import java.util.function.ToLongFunction;

/**
 * Tests of single sentences. Each one names its sentence in the document's own words, which must stand there;
 * in the end no word of the promises, terms and details may be left that no test has named.
 */
final class Edge {
    private static final Path DOCUMENT = Path.of("../shared/DOC.md");
    private static final int MIN = Integer.MIN_VALUE, MAX = Integer.MAX_VALUE;
    /** Stands in a section's text in the place of a word that a test has named. */
    private static final char NAMED = '~';

    /** A call whose edge is one of its numbers. */
    interface Call {
        long with(WayBook book, int number);
    }

    private final Map<String, String> words;
    private final Map<String, StringBuilder> left = new LinkedHashMap<>();
    private final Set<String> failing = new LinkedHashSet<>();
    private String sentence = "";
    private int sentences;
    private int answers;
    private int wrong;

    Edge() {
        try {
            words = sections(Files.readString(DOCUMENT, StandardCharsets.UTF_8));
        } catch (IOException unread) {
            throw new UncheckedIOException(unread);
        }
        for (Map.Entry<String, String> section : words.entrySet()) {
            left.put(section.getKey(), new StringBuilder(section.getValue()));
        }
    }

    // ---- the document's sections, each as one line

    private static Map<String, String> sections(String document) {
        Map<String, String> found = new LinkedHashMap<>();
        String about = between(document, "## What it is", "## The public face");
        found.put("What it is", "An object is used" + about.split("An object is used")[1]);
        for (int n = 1; n <= 4; n++) {
            String next = n < 4 ? "==== " + (n + 1) + " " : "Details. ";
            found.put("Terms " + n, between(document, "==== " + n + " ", next));
        }
        found.put("Details", between(document, "Details. ", "Ahead of the calls `post`"));
        for (int n = 1; n <= 44; n++) {
            String next = n < 44 ? "## Promise " + (n + 1) + ":" : "## Not promised";
            String promise = between(document, "## Promise " + n + ":", next);
            found.put("Promise " + n, promise.substring(promise.indexOf("`: ") + 3));
        }
        return found;
    }

    private static String between(String document, String start, String end) {
        int from = document.indexOf(start) + start.length();
        return document.substring(from, document.indexOf(end, from)).replaceAll("```(text)?", "").replaceAll("\\s+", " ").trim();
    }

    // ---- which sentence

    void promise(int number, String quoted) {
        name("Promise " + number, quoted);
    }

    void terms(int number, String quoted) {
        name("Terms " + number, quoted);
    }

    void details(String quoted) {
        name("Details", quoted);
    }

    void about(String quoted) {
        name("What it is", quoted);
    }

    private void name(String section, String quoted) {
        sentence = section + ": " + quoted;
        sentences++;
        StringBuilder rest = left.get(section);
        int at = rest.indexOf(quoted);
        if (at < 0) {
            at = words.get(section).indexOf(quoted);
        }
        if (at < 0) {
            fail("the document has no such words");
            return;
        }
        for (int i = at; i < at + quoted.length(); i++) {
            rest.setCharAt(i, NAMED);
        }
    }

    // ---- what is due

    private void fail(String what) {
        wrong++;
        failing.add(sentence);
        System.out.println("[" + sentence + "] " + what);
    }

    void is(String call, long answer, long due) {
        answers++;
        if (answer != due) {
            fail(call + " answered " + answer + ", due is " + due);
        }
    }

    void isNot(String call, long answer, long refusal) {
        answers++;
        if (answer == refusal) {
            fail(call + " answered " + answer + ", which is not due");
        }
    }

    /** All WAYS of a FAMILY in THE ORDER, and no more. */
    void ways(String call, WayBook book, int f, int... masks) {
        is(call + ": count", book.count(f), masks.length);
        for (int i = 0; i < masks.length; i++) {
            is(call + ": way " + i, book.way(f, i), masks[i]);
        }
    }

    /** The refusal is due, and the book is then as one that was not asked. */
    void refused(String call, Supplier<WayBook> made, ToLongFunction<WayBook> asked, long refusal) {
        WayBook book = made.get();
        is(call, asked.applyAsLong(book), refusal);
        String look = Look.at(book);
        String due = Look.at(made.get());
        answers++;
        if (!look.equals(due)) {
            fail(call + " changed the book\n  from " + due + "\n  to   " + look);
        }
    }

    /** Of the numbers low .. high none is refused; those one step outside are, and the furthest ones. */
    void range(String call, int low, int high, Supplier<WayBook> made, Call asked, long refusal) {
        int[] inside = {low, low + 1, high - 1, high};
        for (int number : inside) {
            if (number >= low && number <= high) {
                isNot(call + ", number " + number, asked.with(made.get(), number), refusal);
            }
        }
        int[] outside = {MIN, low - 1, high + 1, MAX};
        for (int number : outside) {
            refused(call + ", number " + number, made, book -> asked.with(book, number), refusal);
        }
    }

    /** The numbers of FAMILIES, from a book's first one to its last one. */
    void families(String call, Supplier<WayBook> made, Call asked, long refusal) {
        range(call + ", family", 0, made.get().there(2) - 1, made, asked, refusal);
    }

    /** The 29th and the 30th FAMILY are made; then FULL, till one is dropped. */
    void full(String call, ToLongFunction<WayBook> maker) {
        is(call + " is the 29th", maker.applyAsLong(Nets.families(28)), 28);
        is(call + " is the 30th", maker.applyAsLong(Nets.families(29)), 29);
        refused(call + " is the 31st", () -> Nets.families(30), maker, WayBook.FULL);
        WayBook book = Nets.families(30);
        book.drop();
        is(call + " is the 30th again", maker.applyAsLong(book), 29);
        is(call + ": it is there", book.there(2), 30);
    }

    // ---- the end

    /** The sentences whose tests found something wrong, with words that no test named. */
    List<String> end() {
        for (Map.Entry<String, StringBuilder> section : left.entrySet()) {
            String rest = section.getValue().toString().replaceAll("[~\\s`]+", " ").trim();
            if (!rest.isEmpty()) {
                sentence = section.getKey();
                fail("no test names: " + rest);
            }
        }
        System.out.println("EdgesTest: " + sentences + " sentences, " + answers + " answers, " + wrong + " wrong");
        return new ArrayList<>(failing);
    }
}
