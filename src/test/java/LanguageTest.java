import java.lang.reflect.Field;
import java.lang.reflect.Method;
import java.lang.reflect.Modifier;
import java.nio.file.Files;
import java.nio.file.Path;
import java.util.ArrayList;
import java.util.List;
import java.util.Set;
import java.util.TreeSet;
import java.util.regex.Matcher;
import java.util.regex.Pattern;

/** Those rules of LANGUAGE.md that can be seen in the text of the class or in its members. */
public final class LanguageTest {
    /** What the rules leave out, by rule, as it would stand in the text without comments and texts. */
    private static final String[][] LEFT_OUT = {
        {"2", "->"}, {"2", "::"},
        {"3", "\\bNaN\\b"}, {"3", "\\[\\s*\\]\\s*\\[\\s*\\]\\s*\\["},
        {"4", "\\w+Exact\\b"}, {"4", "\\bjava\\s*\\.(?!\\s*util\\b)"}, {"4", "\\bSystem\\s*\\.(?!\\s*arraycopy\\b)"},
        {"5", "\\bstatic\\s*\\{"},
        {"6", "\\bfinally\\b"}, {"6", "\\btry\\s*\\("}, {"6", "\\bsynchronized\\b"}, {"6", "\\bassert\\b"},
        {"6", "\\bextends\\s+\\w*(Exception|Error|Throwable)\\b"}, {"6", "\\.\\s*getMessage\\b"},
        {"6", "\\bhashCode\\b"}, {"6", "\\bthrow\\s+(?!new\\b)"},
        {"13", "\\b(Thread|Random|File|Files|Instant|Runtime|Process)\\b"},
    };
    private static final Set<String> THROWN = Set.of("IllegalStateException", "IllegalArgumentException");
    private static final Check CHECK = new Check("LanguageTest");

    public static void main(String[] args) throws Exception {
        String text = Files.readString(Path.of("src/main/java/CachedSpeaker.java"));
        String bare = bare(text);
        words(bare);
        thrown(bare);
        methodsAreShort(bare);
        members();
        CHECK.end();
    }

    /** The text without what stands in comments and between quotes; the lines stay. */
    private static String bare(String text) {
        Matcher found = Pattern.compile("/\\*.*?\\*/|//[^\n]*|\"(\\\\.|[^\"\\\\])*\"|'(\\\\.|[^'\\\\])'", Pattern.DOTALL)
            .matcher(text);
        return found.replaceAll(part -> part.group().replaceAll("[^\n]", " "));
    }

    private static void words(String bare) {
        for (String[] rule : LEFT_OUT) {
            CHECK.part("rule " + rule[0]);
            Matcher found = Pattern.compile(rule[1]).matcher(bare);
            CHECK.same("places with " + rule[1], found.results().count(), 0);
        }
        CHECK.part("without a package and imports");
        CHECK.same("package or import", Pattern.compile("\\b(package|import)\\b").matcher(bare).find(), false);
    }

    private static void thrown(String bare) {
        CHECK.part("rule 6");
        Matcher found = Pattern.compile("\\bthrow\\s+new\\s+(\\w+)").matcher(bare);
        while (found.find()) {
            CHECK.same("throw new " + found.group(1), THROWN.contains(found.group(1)), true);
        }
    }

    /** A method is what stands in braces behind parameters; a blank keeps if, for, while and switch out. */
    private static void methodsAreShort(String bare) {
        CHECK.part("rule 11");
        Matcher head = Pattern.compile("\\w+\\([^()]*\\)\\s*(throws [\\w, ]+)?\\{").matcher(bare);
        while (head.find()) {
            int depth = 1;
            int at = head.end();
            while (at < bare.length() && depth > 0) {
                depth += bare.charAt(at) == '{' ? 1 : bare.charAt(at) == '}' ? -1 : 0;
                at++;
            }
            long lines = bare.substring(head.end(), at).lines().count();
            CHECK.same(head.group() + " has " + lines + " lines", lines <= 60, true);
        }
    }

    private static void members() {
        List<Class<?>> classes = new ArrayList<>(List.of(CachedSpeaker.class.getDeclaredClasses()));
        classes.add(CachedSpeaker.class);
        CHECK.part("rule 11");
        CHECK.same("at most twelve classes", classes.size() <= 12, true);
        Set<String> face = new TreeSet<>();
        for (Method method : CachedSpeaker.class.getMethods()) {
            face.add(method.getName());
        }
        for (Class<?> one : classes) {
            fields(one);
            for (Method method : one.getDeclaredMethods()) {
                CHECK.part("rule 11");
                CHECK.same(method + " takes at most seven", method.getParameterCount() <= 7, true);
                CHECK.part("rule 1");
                CHECK.same(method + " is public, or its name is not of the face",
                    Modifier.isPublic(method.getModifiers()) || !face.contains(method.getName()), true);
            }
        }
    }

    private static void fields(Class<?> one) {
        int count = 0;
        for (Field field : one.getDeclaredFields()) {
            int how = field.getModifiers();
            if (!Modifier.isStatic(how)) {
                count++;
            } else {
                CHECK.part("rule 5");
                CHECK.same(field + " is final", Modifier.isFinal(how), true);
            }
        }
        CHECK.part("rule 11");
        CHECK.same(one.getSimpleName() + " has at most twenty fields", count <= 20, true);
    }
}
