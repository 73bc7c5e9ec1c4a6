import java.io.ByteArrayOutputStream;
import java.io.IOException;
import java.io.PrintStream;
import java.lang.reflect.Method;
import java.lang.reflect.Modifier;
import java.nio.file.Files;
import java.nio.file.Path;
import java.util.Set;
import java.util.TreeSet;
import java.util.regex.Matcher;
import java.util.regex.Pattern;

/** README.md tells the truth: its program, what that prints, its calls and its files. */
final class ReadmeTest {
    private static final Path TESTS = Path.of("src", "test", "java");
    private static final Due DUE = new Due("ReadmeTest");

    public static void main(String[] args) throws IOException {
        String page = Files.readString(Path.of("README.md"));
        DUE.is("the program", block(page, "java"), Files.readString(TESTS.resolve("Example.java")));
        DUE.is("what it prints", block(page, "text"), printed());
        calls(page);
        files(page);
        sayings(page);
        DUE.end();
    }

    /** The first block of a kind between fences. */
    private static String block(String page, String kind) {
        Matcher matcher = Pattern.compile("(?s)```" + kind + "\n(.*?\n)```").matcher(page);
        return matcher.find() ? matcher.group(1) : "none";
    }

    private static String printed() {
        PrintStream before = System.out;
        ByteArrayOutputStream bytes = new ByteArrayOutputStream();
        System.setOut(new PrintStream(bytes, true));
        try {
            Example.main(new String[0]);
        } finally {
            System.setOut(before);
        }
        return bytes.toString().replace("\r\n", "\n");
    }

    /** Each call of the face has a row, with as many arguments as it takes. */
    private static void calls(String page) {
        Set<String> told = new TreeSet<>();
        Matcher matcher = Pattern.compile("(?m)^\\| `(\\w+)\\(([^)]*)\\)` \\|").matcher(page);
        while (matcher.find()) {
            int many = matcher.group(2).isEmpty() ? 0 : matcher.group(2).split(",").length;
            told.add(matcher.group(1) + " of " + many);
        }
        Set<String> due = new TreeSet<>();
        for (Method method : OneVerb.class.getDeclaredMethods()) {
            if (Modifier.isPublic(method.getModifiers())) {
                due.add(method.getName() + " of " + method.getParameterCount());
            }
        }
        DUE.is("the calls", told.toString(), due.toString());
    }

    /** Each file of the tests is named, and each class of the program. */
    private static void files(String page) throws IOException {
        try (var files = Files.list(TESTS)) {
            for (Path file : files.toList()) {
                named(page, file.getFileName().toString().replace(".java", ""));
            }
        }
        for (Class<?> inside : OneVerb.class.getDeclaredClasses()) {
            if (!inside.isAnonymousClass() && !inside.isSynthetic()) {
                named(page, inside.getSimpleName());
            }
        }
    }

    private static void named(String page, String name) {
        DUE.is(name + " is named", page.contains("`" + name + "`"), true);
    }

    /** The saying that the page shows has no FAULT in the program's land. */
    private static void sayings(String page) {
        OneVerb x = DUE.in("places 3; thing cat weigh 4; thing dog weigh 9; bend past place + 1;");
        Matcher matcher = Pattern.compile("`([a-z ()]+;)`").matcher(page);
        int many = 0;
        while (matcher.find()) {
            DUE.is(matcher.group(1), Due.ask(x, matcher.group(1)), 0);
            many++;
        }
        DUE.is("sayings shown", many, 1);
    }
}
