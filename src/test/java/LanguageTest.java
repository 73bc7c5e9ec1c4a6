import java.io.IOException;
import java.lang.reflect.Field;
import java.lang.reflect.Modifier;
import java.nio.file.Files;
import java.nio.file.Path;
import java.util.ArrayList;
import java.util.List;
import java.util.regex.Matcher;
import java.util.regex.Pattern;

/** What of ../shared/LANGUAGE.md can be seen in the text of the class; its other rules want a reader. */
final class LanguageTest {
    private static final Path SOURCE = Path.of("src", "main", "java", "OneVerb.java");
    private static final String[] FORBIDDEN = {"->", "::", "\\bcatch\\b", "\\btry\\b", "\\bfinally\\b", "\\bsynchronized\\b",
        "\\bassert\\b", "\\binstanceof\\b", "\\bstatic \\{", "\\bpackage\\b", "Exact\\(", "\\bNaN\\b", "\\bSystem\\.(?!arraycopy)",
        "\\bThread\\b", "\\bRandom\\b", "\\bgetMessage\\b", "\\bhashCode\\b", "\\btoString\\b", "\\bvar\\b", "\\byield\\b",
        "\\[\\]\\[\\]\\[\\]", "\\bprotected\\b"};
    private static final Due DUE = new Due("LanguageTest");

    public static void main(String[] args) throws IOException {
        String source = Files.readString(SOURCE);
        String code = strip(source);
        for (String pattern : FORBIDDEN) {
            Matcher found = Pattern.compile(pattern).matcher(code);
            DUE.is(pattern + " stands in the class", found.find(), false);
        }
        imports(code);
        statics(code);
        methods(code);
        classes();
        DUE.is("signs beyond 127", source.chars().filter(c -> c > 127).count(), 0);
        DUE.end();
    }

    /** The code alone: no comments, and no signs between quotes. */
    private static String strip(String source) {
        String code = source.replaceAll("(?s)/\\*.*?\\*/", "").replaceAll("//[^\n]*", "");
        return code.replaceAll("\"[^\"\n]*\"", "\"\"").replaceAll("'\\\\?[^\n]'", "' '");
    }

    /** Rule 4: no library but Arrays and an exception. */
    private static void imports(String code) {
        List<String> found = new ArrayList<>();
        Matcher matcher = Pattern.compile("import ([^;]+);").matcher(code);
        while (matcher.find()) {
            found.add(matcher.group(1));
        }
        DUE.is("imports", found.toString(), "[java.util.Arrays, java.util.NoSuchElementException]");
        Matcher arrays = Pattern.compile("Arrays\\.(\\w+)").matcher(code);
        while (arrays.find()) {
            boolean fit = List.of("copyOf", "copyOfRange", "fill").contains(arrays.group(1));
            DUE.is("Arrays." + arrays.group(1) + " is of the part", fit, true);
        }
        Matcher thrown = Pattern.compile("throw new (\\w+)").matcher(code);
        while (thrown.find()) {
            DUE.is("throw new " + thrown.group(1), thrown.group(1), "NoSuchElementException");
        }
    }

    /** Rule 5: a static field is final. */
    private static void statics(String code) {
        Matcher matcher = Pattern.compile("\\bstatic (?!final|abstract)[^;{(]*;").matcher(code);
        DUE.is("a static field is not final", matcher.find(), false);
        DUE.is("public classes", code.split("public (final )?class ", -1).length - 1, 1);
    }

    /** Rule 11: seven parameters and some sixty lines at most. */
    private static void methods(String code) {
        Matcher matcher = Pattern.compile("\n( +)[\\w\\[\\] ]*?\\b(\\w+)\\(([^()]*)\\)( throws \\w+)? \\{\n").matcher(code);
        int many = 0;
        while (matcher.find()) {
            String name = matcher.group(2);
            if (List.of("if", "for", "while", "switch").contains(name)) {
                continue;
            }
            many++;
            int end = code.indexOf("\n" + matcher.group(1) + "}", matcher.start() + 1);
            long lines = code.substring(matcher.start() + 1, end).lines().count() + 1;
            DUE.is(name + " has " + lines + " lines, at most 60", lines <= 60, true);
            DUE.is(name + " takes at most seven", matcher.group(3).split(",").length <= 7, true);
        }
        DUE.is("methods found: " + many, many > 100, true);
    }

    /** Rule 11: some twelve classes of some twenty fields; rule 3: arrays of two dimensions of numbers alone. */
    private static void classes() {
        Class<?>[] inside = OneVerb.class.getDeclaredClasses();
        DUE.is("classes: " + (inside.length + 1), inside.length + 1 <= 12, true);
        fields(OneVerb.class);
        for (Class<?> one : inside) {
            fields(one);
        }
    }

    private static void fields(Class<?> one) {
        int many = 0;
        for (Field field : one.getDeclaredFields()) {
            many += Modifier.isStatic(field.getModifiers()) ? 0 : 1;
            Class<?> type = field.getType();
            while (type.isArray()) {
                type = type.getComponentType();
            }
            boolean own = type.getName().startsWith("OneVerb") || type.isPrimitive() || type == String.class;
            DUE.is(field + " is of a type of the part", own, true);
        }
        DUE.is(one + " has " + many + " fields, at most 20", many <= 20, true);
    }
}
