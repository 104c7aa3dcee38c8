import java.lang.reflect.Method;
import java.nio.file.Files;
import java.nio.file.Path;
import java.util.regex.Matcher;
import java.util.regex.Pattern;

/** The example of README.md answers as it says there, and README.md names every call. */
public final class ReadmeTest extends Checks {
    private static final Pattern CALL = Pattern.compile("x\\.(\\w+)\\(([^)]*)\\); +// (-?\\w+): .+");

    public static void main(String[] args) throws Exception {
        String readme = Files.readString(Path.of(System.getProperty("readme", "README.md")));
        int from = readme.indexOf("```java\n");
        int to = readme.indexOf("```\n", from + 1);
        about = "README.md";
        if (from < 0 || to < 0) {
            fail("no example", "one");
        } else {
            example(readme.substring(from, to).split("\n"));
        }
        for (Method m : OfDifferentMinds.class.getDeclaredMethods()) {
            boolean named = Pattern.compile("[`. ]" + m.getName() + "[`( ]").matcher(readme).find();
            if (java.lang.reflect.Modifier.isPublic(m.getModifiers()) && !named) {
                fail("no word of " + m.getName(), "one");
            }
        }
        finish("the example of README.md is as it says");
    }

    private static void example(String[] lines) throws Exception {
        OfDifferentMinds x = new OfDifferentMinds();
        for (int i = 2; i < lines.length; i++) {
            Matcher call = CALL.matcher(lines[i]);
            about = "README.md: " + lines[i];
            if (call.matches()) {
                is("" + answer(x, call.group(1), call.group(2)), call.group(3));
            } else {
                fail("no call with its answer", "one");
            }
        }
    }

    private static Object answer(OfDifferentMinds x, String name, String told) throws Exception {
        String[] parts = told.isEmpty() ? new String[0] : told.split(", ");
        Object[] args = new Object[parts.length];
        Class<?>[] types = new Class<?>[parts.length];
        for (int i = 0; i < parts.length; i++) {
            args[i] = Integer.decode(parts[i]);
            types[i] = int.class;
        }
        return OfDifferentMinds.class.getMethod(name, types).invoke(x, args);
    }
}
