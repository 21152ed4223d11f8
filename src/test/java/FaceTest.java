import java.io.IOException;
import java.lang.reflect.Constructor;
import java.lang.reflect.Field;
import java.lang.reflect.Method;
import java.lang.reflect.Modifier;
import java.nio.charset.StandardCharsets;
import java.nio.file.Files;
import java.nio.file.Path;
import java.util.ArrayList;
import java.util.Arrays;
import java.util.HashSet;
import java.util.List;
import java.util.Set;
import java.util.TreeSet;
import java.util.regex.Matcher;
import java.util.regex.Pattern;

/** The public face is the document's; the program's text keeps to LANGUAGE.md where a text can show it. */
public final class FaceTest {
    private static final Path PROGRAM = Path.of("src/main/java/WayBook.java");
    private static final Path DOCUMENT = Path.of("../shared/DOC.md");
    private static int wrong;

    public static void main(String[] args) throws IOException, IllegalAccessException {
        String document = Files.readString(DOCUMENT, StandardCharsets.UTF_8);
        face(document);
        own(document);
        text(Files.readString(PROGRAM, StandardCharsets.UTF_8));
        System.out.println("FaceTest: " + wrong + " wrong");
        if (wrong != 0) {
            System.exit(1);
        }
    }

    private static void claim(boolean holds, String what) {
        if (!holds) {
            wrong++;
            System.out.println("FaceTest: " + what);
        }
    }

    /** The document's methods, as reflection writes them: what each answers, its name, what it takes. */
    private static Set<String> told(String document) {
        Set<String> told = new TreeSet<>();
        Matcher line = Pattern.compile("(?m)^    public (int|long) (\\w+)\\((.*)\\);$").matcher(document);
        while (line.find()) {
            List<String> types = new ArrayList<>();
            for (String taken : line.group(3).split(", ")) {
                if (!taken.isEmpty()) {
                    types.add(taken.split(" ")[0]);
                }
            }
            told.add(line.group(1) + " " + line.group(2) + types);
        }
        return told;
    }

    private static void face(String document) {
        Class<WayBook> book = WayBook.class;
        claim(Modifier.isPublic(book.getModifiers()) && Modifier.isFinal(book.getModifiers()), "public final class");
        Set<String> methods = new TreeSet<>();
        Set<String> hidden = new HashSet<>();
        Set<String> names = new HashSet<>();
        for (Method method : book.getDeclaredMethods()) {
            if (Modifier.isPublic(method.getModifiers())) {
                List<String> types = new ArrayList<>();
                for (Class<?> type : method.getParameterTypes()) {
                    types.add(type.getName());
                }
                methods.add(method.getReturnType().getName() + " " + method.getName() + types);
                names.add(method.getName());
            } else {
                claim(Modifier.isPrivate(method.getModifiers()), "a method is neither public nor private: " + method);
                hidden.add(method.getName());
            }
        }
        claim(methods.size() == 43, "43 methods, not " + methods.size());
        claim(methods.equals(told(document)), "the methods are " + methods + ", the document's " + told(document));
        for (Class<?> inside : book.getDeclaredClasses()) {
            for (Method method : inside.getDeclaredMethods()) {
                hidden.add(method.getName());
            }
        }
        hidden.retainAll(names);
        claim(hidden.isEmpty(), "methods with names of public ones: " + hidden);
        Constructor<?>[] constructors = book.getDeclaredConstructors();
        claim(constructors.length == 1 && Modifier.isPublic(constructors[0].getModifiers())
            && constructors[0].getParameterCount() == 0, "one public constructor");
    }

    private static void own(String document) throws IllegalAccessException {
        List<String> constants = new ArrayList<>();
        for (Field field : WayBook.class.getDeclaredFields()) {
            int how = field.getModifiers();
            if (Modifier.isPrivate(how)) {
                claim(!Modifier.isStatic(how) || Modifier.isFinal(how), "static, not final: " + field);
            } else {
                claim(Modifier.toString(how).equals("public static final"), field + " is public static final");
                constants.add(field.getName() + " = " + field.getInt(null));
            }
        }
        String due = "    public static final int " + String.join(", ", constants) + ";\n";
        claim(document.contains(due), "the constants are " + constants);
        Class<?>[] inside = WayBook.class.getDeclaredClasses();
        claim(inside.length < 12, "at most some twelve classes");
        for (Class<?> one : inside) {
            claim(Modifier.isStatic(one.getModifiers()) && !Modifier.isPublic(one.getModifiers()), one + " is static");
            int fields = 0;
            for (Field field : one.getDeclaredFields()) {
                boolean fixed = Modifier.isStatic(field.getModifiers());
                claim(!fixed || Modifier.isFinal(field.getModifiers()), "static, not final: " + field);
                fields += fixed ? 0 : 1;
            }
            claim(fields <= 20, one + " has " + fields + " fields");
        }
    }

    private static void text(String program) {
        String bare = program.replaceAll("(?s)/\\*.*?\\*/", "").replaceAll("//[^\n]*", "");
        String[] banned = {
            "\\bthrows?\\b", "\\btry\\b", "\\bcatch\\b", "\\bsynchronized\\b", "\\bassert\\b", "->", "::", "\\bpackage\\b",
            "\\bequals\\b", "\\bhashCode\\b", "\\btoString\\b", "\\bSystem\\.(?!arraycopy\\b)", "\\bThread\\b",
            "\\bRandom\\b", "Exact\\b", "\\bObject\\b", "\\bvar\\b", "while \\(true\\)", "for \\(;", "@"
        };
        for (String one : banned) {
            Matcher found = Pattern.compile(one).matcher(bare);
            claim(!found.find(), "the program's text has " + one);
        }
        Matcher imports = Pattern.compile("(?m)^import (.*);$").matcher(bare);
        List<String> allowed = Arrays.asList("java.util.Arrays", "java.util.ArrayList", "java.util.List");
        while (imports.find()) {
            claim(allowed.contains(imports.group(1)), "import of " + imports.group(1));
        }
        for (int i = 0; i < program.length(); i++) {
            claim(program.charAt(i) < 128, "a sign above 127 at " + i);
        }
    }
}
