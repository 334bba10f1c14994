import java.lang.reflect.Method;
import java.lang.reflect.Modifier;
import java.nio.file.Files;
import java.nio.file.Path;
import java.util.List;
import java.util.regex.Matcher;
import java.util.regex.Pattern;

/** README.md: the calls on it, done in their order on one object, answer what it says. */
public final class ReadmeTest {
    private static final Pattern CALL = Pattern.compile("casts\\.(\\w+)\\(([^)]*)\\);\\s+// (-?\\d+)(:.*)?");
    private static final Pattern TYPED = Pattern.compile(
        "for \\(char c : \"(.*)\"\\.toCharArray\\(\\)\\) casts\\.type\\(c\\);");
    private static final String MADE = "MessengerCasts casts = new MessengerCasts();";

    private static int wrong;

    public static void main(String[] args) throws Exception {
        String page = Files.readString(Path.of("README.md"));
        int calls = examples(page);
        names(page);
        if (calls == 0) {
            fail("README.md has no call with its answer");
        }
        if (wrong != 0) {
            System.exit(1);
        }
        Check.finish("ReadmeTest");
    }

    private static void fail(String what) {
        wrong++;
        System.out.println(what);
    }

    private static int examples(String page) throws Exception {
        MessengerCasts x = new MessengerCasts();
        Matcher block = Pattern.compile("(?s)```java\n(.*?)```").matcher(page);
        int calls = 0;
        while (block.find()) {
            for (String line : block.group(1).split("\n")) {
                Matcher call = CALL.matcher(line);
                Matcher typed = TYPED.matcher(line);
                if (call.matches()) {
                    calls++;
                    Check.due(0, line, answer(x, call.group(1), call.group(2)), Integer.parseInt(call.group(3)));
                } else if (typed.matches()) {
                    for (char c : typed.group(1).toCharArray()) {
                        x.type(c);
                    }
                } else if (!line.equals(MADE)) {
                    fail("README.md has a line that is not understood: " + line);
                }
            }
        }
        return calls;
    }

    private static int answer(MessengerCasts x, String name, String arguments) throws Exception {
        String[] words = arguments.isEmpty() ? new String[0] : arguments.split(", ");
        for (Method method : MessengerCasts.class.getMethods()) {
            if (method.getName().equals(name) && method.getParameterCount() == words.length) {
                Object[] values = new Object[words.length];
                for (int i = 0; i < words.length; i++) {
                    boolean isWhether = method.getParameterTypes()[i] == boolean.class;
                    values[i] = isWhether ? Boolean.valueOf(words[i]) : (Object) Integer.valueOf(words[i]);
                }
                return (Integer) method.invoke(x, values);
            }
        }
        fail("README.md calls " + name + " with " + words.length + " arguments");
        return Integer.MIN_VALUE;
    }

    /** The page names every method with its parameters' number, every constant and every test. */
    private static void names(String page) throws Exception {
        for (Method method : MessengerCasts.class.getDeclaredMethods()) {
            boolean isPublic = Modifier.isPublic(method.getModifiers());
            String commas = ", \\w+".repeat(Math.max(0, method.getParameterCount() - 1));
            String call = "`" + method.getName() + "\\(" + (method.getParameterCount() > 0 ? "\\w+" + commas : "") + "\\)`";
            if (isPublic && !Pattern.compile(call).matcher(page).find()) {
                fail("README.md does not tell of " + method.getName());
            }
        }
        for (String name : List.of("UNKNOWN", "BAD_VALUE", "FULL", "NOT_POSSIBLE", "NONE")) {
            int value = MessengerCasts.class.getField(name).getInt(null);
            if (!page.contains("`" + name + "` (" + value)) {
                fail("README.md does not tell of " + name);
            }
        }
        try (var files = Files.list(Path.of("tests"))) {
            for (Path file : (Iterable<Path>) files::iterator) {
                String name = file.getFileName().toString().replace(".java", "");
                if (name.endsWith("Test") && !page.contains("`" + name + "`")) {
                    fail("README.md does not tell of " + name);
                }
            }
        }
    }
}
