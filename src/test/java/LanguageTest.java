import java.lang.reflect.Constructor;
import java.lang.reflect.Field;
import java.lang.reflect.Method;
import java.lang.reflect.Modifier;
import java.nio.file.Files;
import java.nio.file.Path;
import java.util.ArrayList;
import java.util.List;
import java.util.TreeSet;
import java.util.regex.Matcher;
import java.util.regex.Pattern;

/** The face of the document, and those rules of LANGUAGE.md that can be looked up in the class or its text. */
public final class LanguageTest {
    private static final String[] CALLS = {
        "type 1", "clear 0", "plate 0", "corner 2", "cut 2", "part 2", "burns 1", "moves 1", "follows 0", "undo 0",
        "piece 2", "link 1", "round 3", "tour 1", "sees 3", "forget 0", "unseen 0", "ask 0", "keep 1", "back 1",
        "count 1"};
    private static final String[] BARRED = {
        "\\b(throw|throws|try|catch|synchronized|assert|protected|instanceof)\\b", "->", "::", "Exact\\b",
        "\\bimport (?!java\\.util\\.(Arrays|ArrayList|List|Iterator);)", "\\bSystem\\.(?!arraycopy)", "\\bpackage\\b",
        "\\b(Object|Random|Thread|Map|Set|HashMap|Collections|Exception|RuntimeException)\\b"};
    private static int wrong = 0;

    private static void must(boolean holds, String what) {
        if (!holds) {
            wrong++;
            System.out.println("language: " + what);
        }
    }

    public static void main(String[] args) throws Exception {
        face();
        for (Class<?> inner : TorchPlate.class.getDeclaredClasses()) {
            nested(inner);
        }
        must(TorchPlate.class.getDeclaredClasses().length < 12, "too many classes");
        source(Files.readString(Path.of("src/main/java/TorchPlate.java")));
        System.out.println(wrong == 0 ? "language: as told" : "language: not as told");
        if (wrong != 0) {
            System.exit(1);
        }
    }

    private static void face() throws Exception {
        int kind = TorchPlate.class.getModifiers();
        must(Modifier.isPublic(kind) && Modifier.isFinal(kind), "the class is public and final");
        TreeSet<String> got = new TreeSet<>();
        for (Method m : TorchPlate.class.getDeclaredMethods()) {
            if (!Modifier.isPrivate(m.getModifiers())) {
                must(Modifier.isPublic(m.getModifiers()) && !Modifier.isStatic(m.getModifiers()), m + " is public");
                must(m.getReturnType() == int.class, m + " answers an int");
                for (Class<?> p : m.getParameterTypes()) {
                    must(p == int.class, m + " takes ints");
                }
                must(got.add(m.getName() + " " + m.getParameterCount()), m + " stands twice");
            }
        }
        must(got.equals(new TreeSet<>(List.of(CALLS))), "the calls are " + got);
        Constructor<?>[] makers = TorchPlate.class.getDeclaredConstructors();
        must(makers.length == 1 && Modifier.isPublic(makers[0].getModifiers()) && makers[0].getParameterCount() == 0,
                "one public constructor");
        List<String> open = new ArrayList<>();
        for (Field f : TorchPlate.class.getDeclaredFields()) {
            if (!Modifier.isPrivate(f.getModifiers())) {
                open.add(f.getName() + f.getInt(null));
            }
        }
        must(open.equals(List.of("BAD-1", "STATE-2", "FULL-3", "NONE-9")), "the constants are " + open);
        names(TorchPlate.class);
    }

    private static void nested(Class<?> inner) {
        must(Modifier.isStatic(inner.getModifiers()) && !Modifier.isPublic(inner.getModifiers()), inner + " is static");
        for (Method m : inner.getDeclaredMethods()) {
            for (String call : CALLS) {
                must(!call.startsWith(m.getName() + " "), inner + " has the call's name " + m.getName());
            }
            must(m.getParameterCount() <= 7, m + " takes too much");
        }
        names(inner);
    }

    private static void names(Class<?> of) {
        int fields = 0;
        for (Field f : of.getDeclaredFields()) {
            if (Modifier.isStatic(f.getModifiers())) {
                must(Modifier.isFinal(f.getModifiers()), f + " is final");
            } else {
                fields++;
            }
        }
        must(fields <= 20, of + " has too many fields");
    }

    private static void source(String text) {
        String code = text.replaceAll("(?s)/\\*.*?\\*/", "").replaceAll("//[^\n]*", "");
        for (String barred : BARRED) {
            Matcher m = Pattern.compile(barred).matcher(code);
            must(!m.find(), "barred: " + barred);
        }
        int begun = -1;
        String[] lines = text.split("\n");
        for (int i = 0; i < lines.length; i++) {
            must(lines[i].length() <= 120, "line " + (i + 1) + " is too long");
            if (lines[i].matches(" {4,8}\\S.*\\) \\{")) {
                begun = i;
            }
            if (lines[i].matches(" {4,8}\\}") && begun >= 0) {
                must(i - begun < 60, "the method at line " + (begun + 1) + " is too long");
                begun = -1;
            }
        }
    }
}
