import java.io.IOException;
import java.lang.reflect.Field;
import java.lang.reflect.Method;
import java.lang.reflect.Modifier;
import java.nio.file.Files;
import java.nio.file.Path;
import java.util.HashSet;
import java.util.List;
import java.util.Set;
import java.util.regex.Matcher;
import java.util.regex.Pattern;

/** What can be seen, in the source and by reflection, of the rules of ../shared/LANGUAGE.md. */
public final class LanguageTests {
    private static final Path SOURCE = Path.of("src/main/java/LehrBelt.java");

    private static final String[] FORBIDDEN = {"\\bthrows?\\b", "\\btry\\b", "\\bcatch\\b", "\\bfinally\\b",
        "\\bsynchronized\\b", "\\bassert\\b", "->", "::", "\\bstatic\\s*\\{", "Exact\\b", "\\bpackage\\b",
        "\\bprotected\\b", "\\bequals\\b", "\\bhashCode\\b", "\\btoString\\b", "\\bvar\\b", "\\bfloat\\b",
        "\\bdouble\\b", "\\bObject\\b", "\\bSystem\\.(?!arraycopy\\b)", "\\bRandom\\b", "\\bThread\\b",
        "\\bwhile\\s*\\(\\s*true", "for\\s*\\(\\s*;", "[^\\x00-\\x7f]"};

    private static final Set<Class<?>> CONSTANTS = Set.of(int.class, long.class, boolean.class, char.class,
        String.class, int[].class, long[].class, char[].class, byte[].class);

    private LanguageTests() { }

    public static void main(String[] args) throws IOException {
        String source = Files.readString(SOURCE);
        String code = withoutCommentsAndTexts(source);
        for (String forbidden : FORBIDDEN) {
            Matcher m = Pattern.compile(forbidden).matcher(code);
            Checks.holds("no " + forbidden, !m.find());
        }
        Matcher imports = Pattern.compile("import ([^;]+);").matcher(code);
        while (imports.find()) {
            Checks.holds("import " + imports.group(1), imports.group(1).equals("java.util.Arrays"));
        }
        lengths(code);
        face();
        int classes = 1;
        for (Class<?> inner : LehrBelt.class.getDeclaredClasses()) {
            classes++;
            Checks.holds(inner + " is static", Modifier.isStatic(inner.getModifiers()));
            Checks.holds(inner + " is not public", !Modifier.isPublic(inner.getModifiers()));
            Checks.is(inner + " has no classes inside", inner.getDeclaredClasses().length, 0);
            members(inner);
        }
        members(LehrBelt.class);
        Checks.holds("some twelve classes", classes <= 12);
        Checks.close("LanguageTests");
    }

    private static String withoutCommentsAndTexts(String source) {
        return source.replaceAll("(?s)/\\*.*?\\*/", "").replaceAll("//[^\n]*", "").replaceAll("\"[^\"\n]*\"", "\"\"");
    }

    /** A method begins at a line that ends with ") {" and stands where members do; it ends at the brace below. */
    private static void lengths(String code) {
        List<String> lines = code.lines().toList();
        for (int i = 0; i < lines.size(); i++) {
            Matcher head = Pattern.compile("^( {4}| {8})(?=\\w)(?!\\s)(?!for|if|while|switch).*\\) \\{$")
                    .matcher(lines.get(i));
            if (head.find()) {
                int last = i;
                while (!lines.get(last).equals(head.group(1) + "}")) {
                    last++;
                }
                Checks.holds(lines.get(i).trim() + " is short", last - i < 60);
            }
        }
    }

    private static void face() {
        Set<String> face = new HashSet<>();
        for (Method m : LehrBelt.class.getDeclaredMethods()) {
            if (Modifier.isPublic(m.getModifiers())) {
                face.add(m.getName());
                Checks.holds(m + " is not static", !Modifier.isStatic(m.getModifiers()));
            } else {
                Checks.holds(m + " is private", Modifier.isPrivate(m.getModifiers()));
            }
        }
        Checks.is("names of the face", face.size(), 85);
        for (Class<?> c : LehrBelt.class.getNestMembers()) {
            for (Method m : c.getDeclaredMethods()) {
                Checks.holds(m + " has no name of the face",
                        c == LehrBelt.class && Modifier.isPublic(m.getModifiers()) || !face.contains(m.getName()));
            }
        }
        for (Field f : LehrBelt.class.getDeclaredFields()) {
            Checks.holds(f + " is NONE or private", f.getName().equals("NONE") || Modifier.isPrivate(f.getModifiers()));
        }
        Checks.is("constructors", LehrBelt.class.getDeclaredConstructors().length, 1);
        Checks.is("public constructors", LehrBelt.class.getConstructors().length, 1);
        Checks.holds("LehrBelt is final", Modifier.isFinal(LehrBelt.class.getModifiers()));
    }

    private static void members(Class<?> c) {
        int own = 0;
        for (Field f : c.getDeclaredFields()) {
            if (Modifier.isStatic(f.getModifiers())) {
                Checks.holds(f + " is a constant", Modifier.isFinal(f.getModifiers()) && CONSTANTS.contains(f.getType()));
            } else {
                own++;
            }
        }
        Checks.holds(c + " has some twenty fields", own <= 20);
        for (Method m : c.getDeclaredMethods()) {
            Checks.holds(m + " takes at most seven", m.getParameterCount() <= 7);
        }
    }
}
