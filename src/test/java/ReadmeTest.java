import java.io.IOException;
import java.nio.charset.StandardCharsets;
import java.nio.file.FileVisitOption;
import java.nio.file.Files;
import java.nio.file.Path;
import java.nio.file.StandardCopyOption;
import java.util.ArrayList;
import java.util.Comparator;
import java.util.List;
import java.util.stream.Stream;

/**
 * Types what README.md tells one to type in a copy of the project's folder that holds nothing made before, and
 * compares what is printed with what README.md says.
 */
public final class ReadmeTest {
    private static final Path README = Path.of("README.md");
    private static final Path SHARED = Path.of("../shared");
    /** Typed here it would never end: it runs this test. */
    private static final String ALL_TESTS = ".ci/run\n";
    private static final List<String> LEFT_OUT = List.of(".git", "build");

    private record Block(String language, String text) {
    }

    private static int wrong;

    public static void main(String[] args) throws IOException, InterruptedException {
        Path place = Files.createTempDirectory("readme");
        try {
            Path folder = place.resolve("main");
            copy(Path.of("."), folder);
            copy(SHARED, place.resolve("shared"));
            typeAll(blocks(Files.readString(README, StandardCharsets.UTF_8)), folder);
        } finally {
            remove(place);
        }
        System.out.println("ReadmeTest: " + wrong + " wrong");
        if (wrong != 0) {
            System.exit(1);
        }
    }

    private static void claim(boolean holds, String what) {
        if (!holds) {
            wrong++;
            System.out.println("ReadmeTest: " + what);
        }
    }

    private static List<Block> blocks(String readme) {
        List<Block> blocks = new ArrayList<>();
        String language = null;
        StringBuilder text = new StringBuilder();
        for (String line : readme.split("\n")) {
            if (!line.startsWith("```")) {
                text.append(line).append('\n');
            } else if (language == null) {
                language = line.substring(3);
                text.setLength(0);
            } else {
                blocks.add(new Block(language, text.toString()));
                language = null;
            }
        }
        claim(language == null, "a block has no end");
        return blocks;
    }

    private static void typeAll(List<Block> blocks, Path folder) throws IOException, InterruptedException {
        int typed = 0;
        boolean toldAllTests = false;
        for (int i = 0; i < blocks.size(); i++) {
            Block block = blocks.get(i);
            if (block.text.equals(ALL_TESTS)) {
                toldAllTests = true;
            } else if (block.language.equals("sh")) {
                boolean told = i + 1 < blocks.size() && blocks.get(i + 1).language.equals("text");
                claim(told, "README.md does not say what is printed by\n" + block.text);
                type(block.text, told ? blocks.get(i + 1).text : "", folder);
                typed++;
            }
        }
        claim(typed == 3, "three blocks to be typed, not " + typed);
        claim(toldAllTests, "README.md does not tell how all tests are run");
        claim(Files.isExecutable(folder.resolve(ALL_TESTS.trim())), ALL_TESTS.trim() + " can't be run");
    }

    private static void type(String commands, String due, Path folder) throws IOException, InterruptedException {
        ProcessBuilder shell = new ProcessBuilder("sh", "-e", "-c", commands);
        shell.directory(folder.toFile()).redirectError(ProcessBuilder.Redirect.INHERIT);
        Process process = shell.start();
        process.getOutputStream().close();
        String printed = new String(process.getInputStream().readAllBytes(), StandardCharsets.UTF_8);
        int exit = process.waitFor();
        claim(exit == 0, "exit code " + exit + " of\n" + commands);
        claim(printed.equals(due), "printed is\n" + printed + "and README.md says\n" + due);
    }

    private static void copy(Path from, Path to) throws IOException {
        List<Path> all;
        try (Stream<Path> walk = Files.walk(from, FileVisitOption.FOLLOW_LINKS)) {
            all = walk.toList();
        }
        for (Path one : all) {
            Path within = from.relativize(one);
            if (LEFT_OUT.contains(within.getName(0).toString())) {
                continue;
            }
            Path copied = to.resolve(within);
            if (Files.isDirectory(one)) {
                Files.createDirectories(copied);
            } else {
                Files.copy(one, copied, StandardCopyOption.COPY_ATTRIBUTES);
            }
        }
    }

    private static void remove(Path place) throws IOException {
        List<Path> all;
        try (Stream<Path> walk = Files.walk(place)) {
            all = walk.sorted(Comparator.reverseOrder()).toList();
        }
        for (Path one : all) {
            Files.delete(one);
        }
    }
}
