import java.lang.reflect.Method;
import java.nio.file.Files;
import java.nio.file.Path;
import java.util.Set;
import java.util.TreeSet;
import java.util.regex.Matcher;
import java.util.regex.Pattern;

/** Makes the calls of README.md's examples, and compares each answer with the one that stands behind it. */
public final class ReadmeTest {
    private static final int MOST_CALLS = 512;
    private static final Pattern NEW = Pattern.compile("TorchPlate t = new TorchPlate\\(\\);");
    private static final Pattern TYPED = Pattern.compile("type\\(t, \"([^\"]*)\"\\);");
    private static final Pattern CALL = Pattern.compile("t\\.(\\w+)\\(([-0-9, ]*)\\); +// (-?\\d+|[A-Z]+)(:.*)?");
    private static final Set<String> called = new TreeSet<>();
    private static TorchPlate object = null;
    private static int calls = 0;
    private static int wrong = 0;

    public static void main(String[] args) throws Exception {
        boolean example = false;
        for (String line : Files.readAllLines(Path.of("README.md"))) {
            if (line.startsWith("```")) {
                example = line.equals("```java");
            } else if (example && !line.startsWith(" ") && !line.startsWith("}") && !line.startsWith("static ")) {
                take(line);
            }
        }
        everyCallIsShown();
        must(calls <= MOST_CALLS, "more calls than an object is used for: " + calls);
        System.out.println("readme: " + calls + " calls, " + wrong + " not as told");
        if (wrong != 0) {
            System.exit(1);
        }
    }

    private static void must(boolean holds, String what) {
        if (!holds) {
            wrong++;
            System.out.println("readme: " + what);
        }
    }

    private static void take(String line) throws Exception {
        Matcher typed = TYPED.matcher(line);
        Matcher call = CALL.matcher(line);
        if (NEW.matcher(line).matches()) {
            object = new TorchPlate();
        } else if (typed.matches()) {
            type(typed.group(1));
        } else if (call.matches()) {
            int got = answer(call.group(1), call.group(2));
            must(got == due(call.group(3)), line + " .. answered " + got);
        } else {
            must(false, "can't be read: " + line);
        }
    }

    private static void type(String text) {
        called.add("type");
        for (int i = 0; i < text.length(); i++) {
            calls++;
            must(object.type(text.charAt(i)) == i + 1, "letter " + i + " of " + text);
        }
    }

    private static int answer(String name, String numbers) throws Exception {
        called.add(name);
        calls++;
        String[] parts = numbers.isEmpty() ? new String[0] : numbers.split(", ");
        Class<?>[] kinds = new Class<?>[parts.length];
        Object[] values = new Object[parts.length];
        for (int i = 0; i < parts.length; i++) {
            kinds[i] = int.class;
            values[i] = Integer.valueOf(parts[i]);
        }
        return (Integer) TorchPlate.class.getMethod(name, kinds).invoke(object, values);
    }

    private static int due(String told) throws Exception {
        boolean name = Character.isLetter(told.charAt(0));
        return name ? TorchPlate.class.getField(told).getInt(null) : Integer.parseInt(told);
    }

    private static void everyCallIsShown() {
        for (Method m : TorchPlate.class.getDeclaredMethods()) {
            if (java.lang.reflect.Modifier.isPublic(m.getModifiers())) {
                must(called.contains(m.getName()), "no example of " + m.getName());
            }
        }
    }
}
