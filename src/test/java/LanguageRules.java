import java.io.IOException;
import java.lang.reflect.Field;
import java.lang.reflect.Member;
import java.lang.reflect.Method;
import java.lang.reflect.Modifier;
import java.nio.file.Files;
import java.nio.file.Path;
import java.util.Set;
import java.util.TreeSet;
import java.util.regex.Matcher;
import java.util.regex.Pattern;

/** What of ../shared/LANGUAGE.md can be seen from outside: the face, words that are ruled out, lengths. */
public final class LanguageRules {
    private static final Path SOURCE = Path.of("src/main/java/RibbonOfLacks.java");
    private static final Set<String> FACE = Set.of("write", "wipe", "fault", "lay", "thing", "person", "beast",
        "strength", "follows", "missed", "bind", "loosen", "days", "undo", "cost", "least", "all", "more", "worst",
        "back", "missing", "trial", "pledge", "gain", "row", "keep", "restore", "count");
    private static final String RULED_OUT = "\\b(throw|throws|try|catch|finally|synchronized|assert|import|package|"
        + "protected|volatile|transient|native|Object|Class|Random|System\\.(?!arraycopy)|Thread|instanceof var)\\b|->|::";

    private static int wrong = 0;

    private static void check(boolean holds, String what) {
        if (!holds) {
            wrong++;
            System.out.println(what);
        }
    }

    public static void main(String[] args) throws IOException {
        checkWords(Files.readString(SOURCE));
        checkFace();
        checkClasses();
        System.out.println(wrong == 0 ? "the rules hold" : wrong + " rules are broken");
        if (wrong != 0) {
            System.exit(1);
        }
    }

    private static void checkWords(String source) {
        String code = source.replaceAll("(?s)/\\*.*?\\*/", "").replaceAll("//[^\n]*", "").replaceAll("\"[^\"]*\"", "\"\"")
            .replaceAll("import java\\.util\\.(ArrayList|List|Arrays|Iterator);", "").replaceAll("(case .*|default) ->", "");
        Matcher m = Pattern.compile(RULED_OUT).matcher(code);
        while (m.find()) {
            check(false, "ruled out: " + m.group());
        }
        check(!code.contains("\" +") && !code.contains("+ \""), "texts joined by +");
        int start = -1;
        String[] lines = source.split("\n");
        for (int i = 0; i < lines.length; i++) {
            if (start < 0 && lines[i].matches(" {4}( {4})?\\S.*\\(.*\\) \\{")) {
                start = i;
            } else if (start >= 0 && lines[i].matches(" {4}( {4})?\\}")) {
                check(i - start <= 60, "the method at line " + (start + 1) + " is long");
                start = -1;
            }
        }
    }

    private static void checkFace() {
        Set<String> seen = new TreeSet<>();
        for (Method m : RibbonOfLacks.class.getDeclaredMethods()) {
            if (!m.isSynthetic() && !Modifier.isPrivate(m.getModifiers())) {
                check(Modifier.isPublic(m.getModifiers()) && seen.add(m.getName()), "not of the face: " + m);
            } else {
                check(!FACE.contains(m.getName()), "a private method with a public one's name: " + m);
            }
            check(m.getParameterCount() <= 7, "parameters of " + m);
        }
        check(seen.equals(FACE), "the face is " + seen);
        check(RibbonOfLacks.class.getConstructors().length == 1, "constructors");
        check(Modifier.isFinal(RibbonOfLacks.class.getModifiers()), "not final");
        int constants = 0;
        for (Field f : RibbonOfLacks.class.getDeclaredFields()) {
            constants += isPrivate(f) ? 0 : 1;
        }
        check(constants == 4, "constants of the face: " + constants);
    }

    private static boolean isPrivate(Member m) {
        return Modifier.isPrivate(m.getModifiers());
    }

    private static void checkClasses() {
        Class<?>[] inside = RibbonOfLacks.class.getDeclaredClasses();
        check(inside.length <= 12, "too many classes");
        for (Class<?> c : inside) {
            check(Modifier.isStatic(c.getModifiers()) && !Modifier.isPublic(c.getModifiers()), "not static, private: " + c);
            int fields = 0;
            for (Field f : c.getDeclaredFields()) {
                boolean isStatic = Modifier.isStatic(f.getModifiers());
                check(!isStatic || Modifier.isFinal(f.getModifiers()), "static, not final: " + f);
                fields += isStatic ? 0 : 1;
            }
            check(fields <= 20, "too many fields: " + c);
            for (Method m : c.getDeclaredMethods()) {
                check(!FACE.contains(m.getName()), "a method inside with a public one's name: " + m);
                check(m.getParameterCount() <= 7, "parameters of " + m);
            }
        }
    }
}
