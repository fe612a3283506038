import java.lang.reflect.InvocationTargetException;
import java.lang.reflect.Method;
import java.nio.file.Files;
import java.nio.file.Path;
import java.util.Set;
import java.util.TreeSet;
import java.util.regex.Matcher;
import java.util.regex.Pattern;

/** What README.md shows is what happens: each call of its example answers what stands behind it. */
public final class ReadmeTest {
    /** A call of x, and behind it the answer: the first word of the comment, two where it throws. */
    private static final Pattern LINE = Pattern.compile("x\\.(\\w+)\\((.*?)\\);\\s*// (throws \\w+|-?\\w+)\\b.*");
    private static final Check CHECK = new Check("ReadmeTest");

    public static void main(String[] args) throws Exception {
        String[] lines = example(Files.readString(Path.of("README.md")));
        CHECK.part("the example");
        CHECK.same("its first line makes an object",
            lines[0].equals("CachedSpeaker x = new CachedSpeaker();"), true);
        CachedSpeaker x = new CachedSpeaker();
        Set<String> unused = face();
        for (int k = 1; k < lines.length; k++) {
            Matcher line = LINE.matcher(lines[k]);
            if (!line.matches()) {
                CHECK.complain("no call with its answer: " + lines[k]);
                continue;
            }
            String answer = answer(x, line.group(1), line.group(2));
            CHECK.same(lines[k] + " (it was " + answer + ")", answer.equals(line.group(3)), true);
            unused.remove(line.group(1));
        }
        for (String name : unused) {
            CHECK.complain("the example does not show " + name);
        }
        CHECK.end();
    }

    private static String[] example(String readme) {
        int from = readme.indexOf("```java\n");
        int to = readme.indexOf("\n```", from + 1);
        if (from < 0 || to < 0) {
            throw new AssertionError("README.md has no example");
        }
        return readme.substring(from + "```java\n".length(), to).split("\n");
    }

    private static Set<String> face() {
        Set<String> names = new TreeSet<>();
        for (Method method : CachedSpeaker.class.getDeclaredMethods()) {
            names.add(method.getName());
        }
        return names;
    }

    private static String answer(CachedSpeaker x, String name, String words) throws Exception {
        String[] given = words.isEmpty() ? new String[0] : words.split(", ");
        for (Method method : CachedSpeaker.class.getDeclaredMethods()) {
            if (method.getName().equals(name) && method.getParameterCount() == given.length) {
                return answer(x, method, given);
            }
        }
        return "no such call";
    }

    private static String answer(CachedSpeaker x, Method method, String[] given) throws Exception {
        Object[] values = new Object[given.length];
        for (int k = 0; k < given.length; k++) {
            long number = Long.decode(given[k].replace("_", "").replace("L", ""));
            if (method.getParameterTypes()[k] == long.class) {
                values[k] = number;
            } else {
                values[k] = Math.toIntExact(number);
            }
        }
        try {
            Object got = method.invoke(x, values);
            return got == null ? "nothing" : got.equals(CachedSpeaker.NONE) ? "NONE" : got.toString();
        } catch (InvocationTargetException e) {
            return "throws " + e.getCause().getClass().getSimpleName();
        }
    }
}
