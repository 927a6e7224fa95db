import java.io.IOException;
import java.lang.reflect.Constructor;
import java.lang.reflect.Field;
import java.lang.reflect.Method;
import java.lang.reflect.Modifier;
import java.nio.file.Files;
import java.nio.file.Path;
import java.util.Set;
import java.util.TreeSet;
import java.util.regex.Matcher;
import java.util.regex.Pattern;

/** What can be seen of LANGUAGE.md's rules in the source text and by looking at the class. */
final class LanguageTest {
    private static final Due DUE = new Due();
    private static final Path SOURCE = Path.of("src/main/java/ToadBank.java");
    private static final String[] FACE = {"bank", "owe", "hold", "feed", "law", "ledger", "months", "tried", "bankIs",
        "owes", "holds", "cleared", "falls", "keystone", "blow", "leastBlow", "help", "setOff", "settled", "ring",
        "road", "mergers", "merge", "tampered", "taken", "loan", "payment", "code", "blinks", "atOnce", "shortest",
        "inOrder", "seed", "keep", "undo", "check", "count"};

    public static void main(String[] args) throws IOException {
        face();
        insideClasses();
        text();
        DUE.end();
    }

    private static void face() {
        DUE.is("final", Modifier.isFinal(ToadBank.class.getModifiers()), true);
        DUE.is("public", Modifier.isPublic(ToadBank.class.getModifiers()), true);
        Constructor<?>[] constructors = ToadBank.class.getDeclaredConstructors();
        DUE.is("one constructor", constructors.length, 1);
        DUE.is("public constructor", Modifier.isPublic(constructors[0].getModifiers()), true);
        Set<String> open = new TreeSet<>();
        for (Method m : ToadBank.class.getDeclaredMethods()) {
            if (!Modifier.isPrivate(m.getModifiers())) {
                DUE.is(m.getName() + " once", open.add(m.getName()), true);
            } else {
                DUE.is(m.getName() + " is no name of the face", Set.of(FACE).contains(m.getName()), false);
            }
        }
        DUE.is("the face " + open, open.equals(Set.of(FACE)), true);
        for (Field f : ToadBank.class.getDeclaredFields()) {
            boolean isPrivate = Modifier.isPrivate(f.getModifiers());
            DUE.is(f.getName() + " private", isPrivate, !f.getName().equals("NONE"));
        }
    }

    private static void insideClasses() {
        Set<String> face = Set.of(FACE);
        Class<?>[] inside = ToadBank.class.getDeclaredClasses();
        DUE.is("twelve classes at most", inside.length <= 11, true);
        for (Class<?> c : inside) {
            DUE.is(c + " static", Modifier.isStatic(c.getModifiers()), true);
            DUE.is(c + " private", Modifier.isPrivate(c.getModifiers()), true);
            DUE.is(c + " has no class inside", c.getDeclaredClasses().length, 0);
            for (Method m : c.getDeclaredMethods()) {
                DUE.is(c + " " + m.getName() + " is no name of the face", face.contains(m.getName()), false);
                DUE.is(m.getName() + " takes seven at most", m.getParameterCount() <= 7, true);
            }
            fields(c);
        }
        fields(ToadBank.class);
    }

    private static void fields(Class<?> c) {
        int own = 0;
        for (Field f : c.getDeclaredFields()) {
            if (Modifier.isStatic(f.getModifiers())) {
                DUE.is(f.getName() + " final", Modifier.isFinal(f.getModifiers()), true);
                DUE.is(f.getName() + " a number", f.getType() == int.class, true);
            } else {
                own++;
                Class<?> type = f.getType();
                boolean isOwn = type.getEnclosingClass() == ToadBank.class;
                boolean isNumber = type == int.class || type == boolean.class || type == int[].class;
                DUE.is(f.getName() + " is of a type that is allowed", isOwn || isNumber, true);
            }
        }
        DUE.is(c + " twenty fields at most", own <= 20, true);
    }

    private static void text() throws IOException {
        String source = Files.readString(SOURCE);
        String code = source.replaceAll("(?s)/\\*.*?\\*/", "").replaceAll("//[^\n]*", "");
        String[] words = {"throw", "try", "catch", "finally", "synchronized", "assert", "import", "package", "null",
            "instanceof", "var", "yield", "native", "transient", "volatile", "enum", "double", "float", "System.out",
            "this", "protected", "goto"};
        for (String word : words) {
            DUE.is("no " + word, Pattern.compile("\\b" + Pattern.quote(word) + "\\b").matcher(code).find(), false);
        }
        DUE.is("no lambda", code.contains("->"), false);
        DUE.is("no method reference", code.contains("::"), false);
        DUE.is("no text", code.contains("\""), false);
        // In a method objects are neither made nor rows: that is for fields and the constructor.
        Matcher made = Pattern.compile("\n {12,}.*\\bnew\\b").matcher(code);
        DUE.is("nothing made in a method inside", made.find(), false);
        Matcher library = Pattern.compile("\\b(Math|Integer|Long|System|Arrays|String)\\.(\\w+)").matcher(code);
        Set<String> allowed = Set.of("Math.max", "Math.min", "Integer.bitCount", "System.arraycopy");
        while (library.find()) {
            DUE.is(library.group() + " is allowed", allowed.contains(library.group()), true);
        }
        methodLengths(code);
    }

    private static void methodLengths(String code) {
        String[] lines = code.split("\n");
        int start = -1;
        for (int i = 0; i < lines.length; i++) {
            if (lines[i].matches(" {4}( {4})?\\S.*\\) \\{") && !lines[i].contains(" class ")) {
                start = i;
            }
            if (start >= 0 && lines[i].matches(" {4}( {4})?\\}")) {
                DUE.is("line " + start + " sixty lines at most", i - start < 60, true);
                start = -1;
            }
        }
    }
}
