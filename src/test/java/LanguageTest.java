import java.io.IOException;
import java.lang.reflect.Field;
import java.lang.reflect.Method;
import java.lang.reflect.Modifier;
import java.nio.file.Files;
import java.nio.file.Path;
import java.util.ArrayList;
import java.util.HashSet;
import java.util.List;
import java.util.Set;
import java.util.TreeSet;
import java.util.regex.Matcher;
import java.util.regex.Pattern;

/** The rules of LANGUAGE.md that can be seen in the text or in the compiled class. */
public final class LanguageTest {
    private static final Check CHECK = new Check("LanguageTest");
    private static final String FACE = "feed end cut clear build place row shared before step rank select byteAt "
            + "document alike begin grow front back pattern patternByte at sorted more ranked times take near nearOf "
            + "ask answer answered different kth order repeated common oftenest unique maximal absent factor word "
            + "square mirror match count unwound";

    private LanguageTest() {
    }

    public static void main(String[] arguments) throws IOException {
        theFace();
        classes();
        String source = Files.readString(Path.of("src/main/java/TextRows.java"));
        text(plain(source));
        methods(plain(source));
        CHECK.finish();
    }

    private static void theFace() {
        Set<String> open = new TreeSet<>();
        for (Method method : TextRows.class.getDeclaredMethods()) {
            if (!Modifier.isPrivate(method.getModifiers())) {
                open.add(method.getName());
                CHECK.holds("rule 1: " + method.getName() + " is public", Modifier.isPublic(method.getModifiers()));
            }
        }
        CHECK.holds("rule 1: the face is the document's", open.equals(new TreeSet<>(List.of(FACE.split(" ")))));
        for (Field field : TextRows.class.getDeclaredFields()) {
            boolean constant = field.getName().equals("BAD") || field.getName().equals("NONE");
            CHECK.holds("rule 1: " + field.getName(), Modifier.isPrivate(field.getModifiers()) != constant);
        }
    }

    private static void classes() {
        List<Class<?>> all = new ArrayList<>(List.of(TextRows.class.getDeclaredClasses()));
        CHECK.holds("rule 11: classes", all.size() < 12);
        all.add(TextRows.class);
        Set<String> face = new HashSet<>(List.of(FACE.split(" ")));
        for (Class<?> one : all) {
            int fields = 0;
            for (Field field : one.getDeclaredFields()) {
                boolean fixed = Modifier.isStatic(field.getModifiers());
                fields += fixed ? 0 : 1;
                CHECK.holds("rule 5: " + field, !fixed || Modifier.isFinal(field.getModifiers()));
            }
            CHECK.holds("rule 11: fields of " + one, fields <= 20);
            for (Method method : one.getDeclaredMethods()) {
                CHECK.holds("rule 11: parameters of " + method, method.getParameterCount() <= 7);
                CHECK.holds("rule 1: " + method, one == TextRows.class && Modifier.isPublic(method.getModifiers())
                        || !face.contains(method.getName()));
            }
            CHECK.holds("rule 2: " + one, one == TextRows.class || Modifier.isStatic(one.getModifiers()));
        }
    }

    /** Without comments, and without what stands in quotes. */
    private static String plain(String source) {
        return source.replaceAll("(?s)/\\*.*?\\*/", "").replaceAll("//[^\n]*", "")
                .replaceAll("'(\\\\.|[^\\\\'])'", "'x'").replaceAll("\"(\\\\.|[^\\\\\"])*\"", "\"\"");
    }

    private static void text(String source) {
        for (String word : List.of("throw", "throws", "try", "catch", "finally", "synchronized", "assert", "package",
                "protected", "volatile", "native", "transient", "Object", "hashCode", "toString", "Random", "Thread",
                "var", "yield", "NaN")) {
            CHECK.holds("rule 6: no " + word, !Pattern.compile("\\b" + word + "\\b").matcher(source).find());
        }
        CHECK.holds("rule 2: no lambda", !source.contains("->"));
        CHECK.holds("rule 2: no method reference", !source.contains("::"));
        CHECK.holds("rule 4: none that ends in Exact", !source.contains("Exact"));
        Matcher imports = Pattern.compile("import ([^;]*);").matcher(source);
        while (imports.find()) {
            CHECK.holds("rule 4: " + imports.group(1), imports.group(1).equals("java.util.Arrays"));
        }
        Matcher library = Pattern.compile("\\b(Arrays|System|Math|Integer|Long)\\.(\\w+)").matcher(source);
        while (library.find()) {
            CHECK.holds("rule 4: " + library.group(), Set.of("Arrays.fill", "System.arraycopy", "Math.max",
                    "Math.min").contains(library.group()));
        }
        Matcher made = Pattern.compile("\\bnew (\\w+)").matcher(source);
        while (made.find()) {
            CHECK.holds("rule 3: new " + made.group(1), Set.of("int", "long", "boolean").contains(made.group(1))
                    || source.contains("class " + made.group(1) + " {"));
        }
    }

    private static void methods(String source) {
        String head = "(?m)^( +)(?:public |private |static |final )*[\\w\\[\\]]+ \\w+\\([^;{]*\\) \\{$";
        Matcher heads = Pattern.compile(head).matcher(source);
        int found = 0;
        while (heads.find()) {
            int end = source.indexOf("\n" + heads.group(1) + "}", heads.end());
            long lines = source.substring(heads.start(), end).lines().count();
            CHECK.holds("rule 11: " + heads.group().trim() + " has " + lines + " lines", lines <= 60);
            found++;
        }
        CHECK.holds("methods were found", found > 100);
    }
}
