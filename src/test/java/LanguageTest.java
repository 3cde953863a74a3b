import java.lang.reflect.Field;
import java.lang.reflect.Method;
import java.lang.reflect.Modifier;
import java.nio.file.Files;
import java.nio.file.Path;
import java.util.List;
import java.util.Set;
import java.util.TreeSet;
import java.util.regex.Matcher;
import java.util.regex.Pattern;

/** The rules of LANGUAGE.md that can be read off the class and its source. */
public final class LanguageTest {
    private static final String[] FORBIDDEN = {"\\bthrow\\b", "\\bthrows\\b", "\\btry\\b", "\\bcatch\\b", "\\bsynchronized\\b",
        "\\bassert\\b", "->", "::", "\\w+Exact\\b", "\\bhashCode\\b", "\\btoString\\b", "\\bSystem\\.(?!arraycopy)", "\\bvar\\b",
        "\\bpackage\\b", "\\bThread\\b", "\\bObject\\b", "\\bjava\\.(?!util\\.Arrays;)", "\\bpublic static(?! final)",
        "\\bprotected\\b", "\\bdouble\\b", "\\bfloat\\b"};
    private static int wrong = 0;

    public static void main(String[] args) throws Exception {
        face();
        classesInside();
        String source = Files.readString(Path.of(System.getProperty("topyard.source", "src/main/java/TopYard.java")));
        forbiddenWords(source);
        methodLengths(source);
        System.out.println(wrong == 0 ? "the rules are kept" : wrong + " rules are broken");
        if (wrong != 0) System.exit(1);
    }

    private static void rule(int number, boolean kept, String what) {
        if (!kept) {
            wrong++;
            System.out.println("rule " + number + ": " + what);
        }
    }

    private static void face() {
        Set<String> names = new TreeSet<>(Face.NAMES);
        Set<String> found = new TreeSet<>();
        for (Method m : TopYard.class.getDeclaredMethods()) {
            boolean open = Modifier.isPublic(m.getModifiers());
            rule(1, open || Modifier.isPrivate(m.getModifiers()), m + " is neither public nor private");
            if (open) found.add(m.getName());
            rule(1, open || !names.contains(m.getName()), m + " bears a public name");
        }
        rule(1, found.equals(names), "the public methods are " + found);
        for (Field f : TopYard.class.getDeclaredFields()) {
            boolean constant = List.of("NONE", "BAD", "NOT", "FULL").contains(f.getName());
            rule(1, constant == Modifier.isPublic(f.getModifiers()), f + " is open, or hidden");
            rule(1, constant || Modifier.isPrivate(f.getModifiers()), f + " is not private");
        }
        rule(1, Modifier.isFinal(TopYard.class.getModifiers()), "the class is not final");
        rule(1, TopYard.class.getConstructors().length == 1, "there is not one public constructor");
    }

    private static void classesInside() {
        Set<String> names = new TreeSet<>(Face.NAMES);
        Class<?>[] inside = TopYard.class.getDeclaredClasses();
        rule(11, inside.length + 1 <= 12, inside.length + " classes inside");
        for (Class<?> c : inside) {
            rule(2, Modifier.isStatic(c.getModifiers()) && !Modifier.isPublic(c.getModifiers()), c + " is public or not static");
            fields(c);
            for (Method m : c.getDeclaredMethods()) {
                rule(1, !names.contains(m.getName()), m + " bears a public name");
                rule(11, m.getParameterCount() <= 7, m + " takes too much");
                rule(1, !m.isSynthetic(), m + " is not of the source");
            }
        }
        fields(TopYard.class);
    }

    private static void fields(Class<?> c) {
        int own = 0;
        for (Field f : c.getDeclaredFields()) {
            boolean shared = Modifier.isStatic(f.getModifiers());
            rule(5, !shared || Modifier.isFinal(f.getModifiers()), f + " is static and not final");
            own += shared ? 0 : 1;
        }
        rule(11, own <= 20, c + " has " + own + " fields");
    }

    private static void forbiddenWords(String source) {
        String code = source.replaceAll("(?s)/\\*.*?\\*/", "").replaceAll("//[^\n]*", "");
        for (String word : FORBIDDEN) {
            Matcher m = Pattern.compile(word).matcher(code);
            if (m.find()) rule(6, false, "the source has " + m.group());
        }
        rule(4, source.chars().allMatch(b -> b < 128), "the source has signs above 127");
    }

    private static void methodLengths(String source) {
        String[] lines = source.split("\n");
        int start = 0;
        for (int k = 0; k < lines.length; k++) {
            if (lines[k].matches(" {4}( {4})?[^ }/*@].*\\) \\{")) start = k;
            if (lines[k].matches(" {4}( {4})?}")) rule(11, k - start < 60, "long method at line " + (start + 1));
        }
    }
}
