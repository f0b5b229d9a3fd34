import java.io.IOException;
import java.lang.reflect.Constructor;
import java.lang.reflect.Field;
import java.lang.reflect.Method;
import java.lang.reflect.Modifier;
import java.nio.file.Files;
import java.nio.file.Path;
import java.util.HashSet;
import java.util.Set;
import java.util.regex.Matcher;
import java.util.regex.Pattern;

/** The rules of LANGUAGE.md that can be seen from the text or from the compiled classes. */
public final class LanguageTest {
    private static final String[] RULED_OUT = {"\\bthrow\\b", "\\btry\\b", "\\bcatch\\b", "\\bsynchronized\\b", "\\bassert\\b",
        "->", "::", "\\bpackage\\b", "\\bnew [A-Z]\\w*\\([^)]*\\) *\\{", "\\bObject\\b", "\\bequals\\b", "\\bhashCode\\b",
        "\\btoString\\b", "Exact\\b", "\\bSystem\\.(?!arraycopy)", "@"};

    public static void main(String[] args) throws IOException {
        String text = Files.readString(Path.of("src/main/java/FreshHorses.java"));
        String code = text.replaceAll("(?s)/\\*.*?\\*/", "").replaceAll("//[^\n]*", "");
        for (String pattern : RULED_OUT) Due.holds("without " + pattern, !Pattern.compile(pattern).matcher(code).find());
        for (int i = 0; i < text.length(); i++) {
            char c = text.charAt(i);
            if (c > 126 || c < 32 && c != '\n') Due.holds("a sign of ASCII at " + i, false);
        }
        imports(code);
        face();
        Class<?>[] inside = FreshHorses.class.getDeclaredClasses();
        Due.holds("twelve classes at most", inside.length + 1 <= 12);
        names(inside);
        for (Class<?> c : inside) shape(c);
        shape(FreshHorses.class);
        Due.end();
    }

    private static void imports(String code) {
        Matcher m = Pattern.compile("import ([^;]*);").matcher(code);
        while (m.find()) Due.holds("import " + m.group(1), m.group(1).matches("java\\.util\\.(Arrays|List|ArrayList)"));
    }

    /** 33 calls, the constructor and 5 constants are public, nothing else is seen from outside. */
    private static void face() {
        int calls = 0;
        for (Method m : FreshHorses.class.getDeclaredMethods()) {
            if (Modifier.isPublic(m.getModifiers())) calls++;
            else Due.holds(m.getName() + " is private", Modifier.isPrivate(m.getModifiers()));
        }
        Due.is("public calls", calls, 33);
        int constants = 0;
        for (Field f : FreshHorses.class.getDeclaredFields()) {
            if (Modifier.isPublic(f.getModifiers())) constants++;
            else Due.holds(f.getName() + " is private", Modifier.isPrivate(f.getModifiers()));
        }
        Due.is("public constants", constants, 5);
        Due.is("constructors", FreshHorses.class.getDeclaredConstructors().length, 1);
        Due.holds("final", Modifier.isFinal(FreshHorses.class.getModifiers()));
    }

    private static void names(Class<?>[] inside) {
        Set<String> face = new HashSet<>();
        for (Method m : FreshHorses.class.getDeclaredMethods()) {
            if (Modifier.isPublic(m.getModifiers())) face.add(m.getName());
        }
        for (Method m : FreshHorses.class.getDeclaredMethods()) {
            if (!Modifier.isPublic(m.getModifiers())) Due.holds(m.getName() + " is no call", !face.contains(m.getName()));
        }
        for (Class<?> c : inside) {
            for (Method m : c.getDeclaredMethods()) Due.holds(m.getName() + " is no call", !face.contains(m.getName()));
        }
    }

    private static void shape(Class<?> c) {
        int fields = 0;
        for (Field f : c.getDeclaredFields()) {
            boolean isStatic = Modifier.isStatic(f.getModifiers());
            if (!isStatic) fields++;
            else Due.holds(f + " is final", Modifier.isFinal(f.getModifiers()));
        }
        Due.holds(c + " has twenty fields at most", fields <= 20);
        for (Method m : c.getDeclaredMethods()) Due.holds(m + " takes seven at most", m.getParameterCount() <= 7);
        for (Constructor<?> k : c.getDeclaredConstructors()) Due.holds(k + " takes seven at most", k.getParameterCount() <= 7);
        Due.holds(c + " is static", c == FreshHorses.class || Modifier.isStatic(c.getModifiers()));
    }
}
