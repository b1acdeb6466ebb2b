import java.io.IOException;
import java.io.PrintWriter;
import java.net.URL;
import java.net.URLClassLoader;
import java.nio.file.Files;
import java.nio.file.Path;
import java.util.ArrayList;
import java.util.List;
import java.util.regex.Matcher;
import java.util.regex.Pattern;
import java.util.spi.ToolProvider;

/** Compiles the Java that README.md shows, as one program, and sets each call's answer beside the one told there. */
public final class ReadmeTest {
    private static final Path README = Path.of("README.md");
    private static final Path MADE = Path.of("build/readme");
    /** A call with its answer, which is a number or a constant of the class; perhaps with a name for it. */
    private static final Pattern TOLD = Pattern.compile("((?:int|long) (\\w+) = )?(common\\..+);\\s*// (-?\\d+|[A-Z]+): .+");
    private static final Pattern CALL = Pattern.compile("(?:(?:int|long) \\w+ = )?common\\..*");
    private static final Due due = new Due("README.md");

    private final List<String> calls = new ArrayList<>();
    private final StringBuilder body = new StringBuilder();

    public static void main(String[] args) throws Exception {
        List<String> lines = Files.readAllLines(README);
        new ReadmeTest().use(lines);
        paths(lines);
        due.end();
    }

    private void use(List<String> lines) throws Exception {
        boolean inJava = false;
        for (String line : lines) {
            if (line.startsWith("```")) {
                inJava = line.equals("```java");
            } else if (inJava) {
                add(line);
            }
        }
        due.is("calls with answers, some", calls.size() > 0 ? 1 : 0, 1);
        if (!compiles()) {
            due.is("what it shows compiles", 0, 1);
            return;
        }
        URL[] made = {MADE.toUri().toURL()};
        try (URLClassLoader loader = new URLClassLoader(made, ReadmeTest.class.getClassLoader())) {
            long[][] answers = (long[][]) loader.loadClass("ReadmeUse").getMethod("answers").invoke(null);
            for (int i = 0; i < calls.size(); i++) {
                due.is(calls.get(i), answers[i][0], answers[i][1]);
            }
        }
    }

    private void add(String line) {
        Matcher told = TOLD.matcher(line);
        if (!told.matches()) {
            // A call inside a loop may leave its answers untold; it stands further in.
            due.is("a call without its answer: " + line, CALL.matcher(line).matches() ? 1 : 0, 0);
            body.append(line).append('\n');
            return;
        }
        String got = told.group(3);
        if (told.group(1) != null) {
            body.append(told.group(1)).append(got).append(";\n");
            got = told.group(2);
        }
        String want = told.group(4).matches("[A-Z]+") ? "RugIsJurisdiction." + told.group(4) : told.group(4) + "L";
        body.append("all[").append(calls.size()).append("] = new long[] {").append(got).append(", ").append(want)
            .append("};\n");
        calls.add(told.group(3));
    }

    private boolean compiles() throws IOException {
        Files.createDirectories(MADE);
        Path file = MADE.resolve("ReadmeUse.java");
        Files.writeString(file, "public final class ReadmeUse {\npublic static long[][] answers() {\n"
            + "long[][] all = new long[" + calls.size() + "][];\n" + body + "return all;\n}\n}\n");
        PrintWriter out = new PrintWriter(System.out, true);
        return ToolProvider.findFirst("javac").get().run(out, out, "-cp", System.getProperty("java.class.path"),
            "-d", MADE.toString(), file.toString()) == 0;
    }

    private static void paths(List<String> lines) {
        Pattern path = Pattern.compile("(?:\\.\\./shared|src|\\.ci)/[\\w./]*\\w");
        for (String line : lines) {
            Matcher m = path.matcher(line);
            while (m.find()) {
                due.is(m.group() + " is there", Files.exists(Path.of(m.group())) ? 1 : 0, 1);
            }
        }
    }
}
