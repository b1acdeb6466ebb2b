import java.io.IOException;
import java.lang.reflect.Field;
import java.lang.reflect.Method;
import java.lang.reflect.Modifier;
import java.nio.charset.StandardCharsets;
import java.nio.file.Files;
import java.nio.file.Path;
import java.util.Arrays;
import java.util.List;
import java.util.Set;
import java.util.TreeSet;
import java.util.regex.Matcher;
import java.util.regex.Pattern;

/** What of LANGUAGE.md can be seen by reading the class's file and its members. */
public final class LanguageTest {
    private static final Path FILE = Path.of("src/main/java/RugIsJurisdiction.java");
    private static final Due due = new Due("language");

    public static void main(String[] args) throws IOException {
        String source = Files.readString(FILE, StandardCharsets.ISO_8859_1);
        String code = source.replaceAll("(?s)/\\*.*?\\*/", "").replaceAll("//[^\n]*", "")
            .replaceAll("\"[^\"\n]*\"", "\"\"").replaceAll("'[^'\n]+'", "'c'");
        due.is("only signs 1 .. 127", source.chars().filter(c -> c < 1 || c > 127).count(), 0);
        forbidden(code);
        library(code);
        sizes(code);
        face();
        fields();
        due.end();
    }

    private static void forbidden(String code) {
        String[] words = {
            "throw", "throws", "try", "catch", "finally", "synchronized", "assert", "import", "package", "volatile",
            "transient", "native", "protected", "Object", "Class", "hashCode", "toString", "Thread", "Exact"
        };
        for (String word : words) {
            due.is("word " + word, count(code, "\\b" + word + "\\b"), 0);
        }
        due.is("lambdas", count(code, "->"), 0);
        due.is("method references", count(code, "::"), 0);
        due.is("texts joined by +", count(code, "\"\\s*\\+|\\+\\s*\""), 0);
        due.is("things made elsewhere than as fields", count(code, "(?m)^(?!.* ?final ).*\\bnew "), 0);
        due.is("rule 10: arithmetic on booleans", count(code, "\\bis[A-Z]\\w*(\\[\\w+\\])? [|&^]= "), 0);
        due.is("static blocks", count(code, "static\\s*\\{"), 0);
        due.is("classes inside that are not static", count(code, "\\n +(?!.*\\bstatic\\b)[a-z ]*\\b(class|record|enum) "), 0);
        due.is("static fields that are not final", count(code, "\\bstatic (?!final)[a-z\\[\\]A-Z]+ [a-zA-Z]+( =|;)"), 0);
    }

    /** What is called on other things than those of the file's own. */
    private static void library(String code) {
        List<String> known = Arrays.asList("System.arraycopy", "Math.abs", "Math.max", "Math.min", "SIGNS.indexOf");
        Matcher m = Pattern.compile("\\b[A-Z][A-Za-z]*\\.[a-z][A-Za-z]*\\(").matcher(code);
        while (m.find()) {
            String call = m.group().substring(0, m.group().length() - 1);
            due.is("library " + call, known.contains(call) ? 1 : 0, 1);
        }
        due.is("calls of a String that are not listed",
            count(code, "\\.(equals|concat|format|join|matches|replace\\w*|chars|valueOf|clone|getClass)\\("), 0);
    }

    private static void sizes(String code) {
        due.is("classes, some twelve", count(code, "\\bclass [A-Z]") <= 12 ? 1 : 0, 1);
        String[] lines = code.split("\n");
        int from = -1;
        for (int i = 0; i < lines.length; i++) {
            boolean begins = lines[i].matches(" {4}( {4})?[a-zA-Z].*\\) \\{") && !lines[i].contains(" class ");
            if (begins) {
                from = i;
                due.is("parameters: " + lines[i].trim(), count(lines[i], ",") < 7 ? 1 : 0, 1);
            }
            if (from >= 0 && lines[i].equals(lines[from].replaceAll("\\S.*", "") + "}")) {
                due.is("lines: " + lines[from].trim(), i - from < 60 ? 1 : 0, 1);
                from = -1;
            }
        }
    }

    private static void face() {
        Set<String> face = new TreeSet<>();
        for (Method m : RugIsJurisdiction.class.getDeclaredMethods()) {
            if (Modifier.isPublic(m.getModifiers())) {
                due.is("one of a name: " + m.getName(), face.add(m.getName()) ? 1 : 0, 1);
            }
        }
        due.is("methods", face.size(), 37);
        for (Method m : RugIsJurisdiction.class.getDeclaredMethods()) {
            if (!Modifier.isPublic(m.getModifiers())) {
                due.is("private: " + m.getName(), Modifier.isPrivate(m.getModifiers()) ? 1 : 0, 1);
                due.is("no public one's name: " + m.getName(), face.contains(m.getName()) ? 1 : 0, 0);
            }
        }
        for (Class<?> inside : RugIsJurisdiction.class.getDeclaredClasses()) {
            for (Method m : inside.getDeclaredMethods()) {
                due.is("no public one's name: " + m.getName(), face.contains(m.getName()) ? 1 : 0, 0);
            }
        }
    }

    private static void fields() {
        Set<String> constants = new TreeSet<>(Arrays.asList("NONE", "BAD", "STATE", "FULL", "NO"));
        Class<?>[] inside = RugIsJurisdiction.class.getDeclaredClasses();
        Class<?>[] all = Arrays.copyOf(inside, inside.length + 1);
        all[inside.length] = RugIsJurisdiction.class;
        for (Class<?> c : all) {
            int own = 0;
            for (Field f : c.getDeclaredFields()) {
                boolean isStatic = Modifier.isStatic(f.getModifiers());
                own += isStatic ? 0 : 1;
                if (c == RugIsJurisdiction.class) {
                    boolean isPrivate = Modifier.isPrivate(f.getModifiers());
                    due.is("private: " + f.getName(), isPrivate ? 0 : 1, constants.contains(f.getName()) ? 1 : 0);
                }
                due.is("static is final: " + f.getName(),
                    isStatic && !Modifier.isFinal(f.getModifiers()) ? 1 : 0, 0);
            }
            due.is("fields of " + c.getSimpleName(), own <= 20 ? 1 : 0, 1);
        }
    }

    private static int count(String code, String pattern) {
        Matcher m = Pattern.compile(pattern).matcher(code);
        int n = 0;
        while (m.find()) {
            n++;
        }
        return n;
    }
}
