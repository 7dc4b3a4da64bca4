import java.io.File;
import java.io.IOException;
import java.net.URL;
import java.net.URLClassLoader;
import java.nio.file.Files;
import java.nio.file.Path;
import java.util.ArrayList;
import java.util.List;
import java.util.Set;
import java.util.TreeSet;
import java.util.regex.Matcher;
import java.util.regex.Pattern;
import javax.tools.JavaCompiler;
import javax.tools.ToolProvider;

/** What README.md says: its example answers so, and its tables name what the document's face has. */
public final class ReadmeTests {
    private static final Pattern BLOCK = Pattern.compile("(?ms)^```java\n(.*?)^```$");
    private static final Pattern CALL = Pattern.compile("(.+?);\\s+// (-?\\d+)(: .+)?");
    private static final Pattern FACE = Pattern.compile("public (?:int|long) (\\w+)\\(([^)]*)\\);");
    private static final Pattern CODE = Pattern.compile("-[2-5](?!\\d)");

    public static void main(String[] args) throws Exception {
        String readme = Files.readString(Path.of("README.md"));
        String doc = Files.readString(Path.of("../shared/DOC.md"));
        List<String> face = new ArrayList<>();
        Matcher calls = FACE.matcher(doc);
        while (calls.find()) {
            face.add(calls.group(1));
            row(readme, doc, calls.group(1), calls.group(2).replace("int ", ""));
        }
        Check.due("calls of the face", face.size(), 28);
        example(readme, face);
        Check.end();
    }

    /** The example, compiled in another place, counts its answers here. */
    public static void due(String call, long got, long want) {
        Check.due("README.md: " + call, got, want);
    }

    /** A call's row in the table has its arguments, and those codes alone that its promise has. */
    private static void row(String readme, String doc, String name, String arguments) {
        String head = "| `" + name + "(" + arguments + ")` |";
        int at = readme.indexOf(head);
        Check.holds("README.md has a row " + head, at >= 0);
        if (at < 0) {
            return;
        }
        String row = readme.substring(at, readme.indexOf('\n', at));
        int promise = doc.indexOf(": " + name + "\n");
        String words = doc.substring(doc.indexOf("`: ", promise), doc.indexOf("\n\n## ", promise));
        String refused = row.substring(0, row.length() - 1);
        Check.holds("codes of " + head, codes(refused.substring(refused.lastIndexOf('|'))).equals(codes(words)));
        Check.holds("NONE of " + head, row.contains("`NONE`") == words.contains("NONE"));
    }

    private static Set<String> codes(String text) {
        Set<String> codes = new TreeSet<>();
        Matcher matcher = CODE.matcher(text.replace("below -1", ""));
        while (matcher.find()) {
            codes.add(matcher.group());
        }
        return codes;
    }

    private static void example(String readme, List<String> face) throws Exception {
        StringBuilder methods = new StringBuilder();
        StringBuilder statements = new StringBuilder();
        StringBuilder called = new StringBuilder();
        Matcher blocks = BLOCK.matcher(readme);
        while (blocks.find()) {
            if (blocks.group(1).startsWith("static ")) {
                methods.append(blocks.group(1));
            } else {
                blocks.group(1).lines().forEach(line -> statement(line, statements, called));
            }
        }
        for (String name : face) {
            Check.holds("README.md's example calls " + name, called.indexOf("x." + name + "(") >= 0);
        }
        run("public final class ReadmeExample {\n" + methods
            + "public static void main(String[] args) {\n" + statements + "}\n}\n");
    }

    private static void statement(String line, StringBuilder statements, StringBuilder called) {
        Matcher call = CALL.matcher(line);
        if (call.matches()) {
            called.append(line).append('\n');
            String text = call.group(1).replace("\\", "\\\\").replace("\"", "\\\"");
            statements.append("ReadmeTests.due(\"" + text + "\", " + call.group(1) + ", " + call.group(2) + ");\n");
            return;
        }
        boolean needsNone = line.isBlank() || line.startsWith("// ") || line.equals("StepNets x = new StepNets();");
        Check.holds("README.md tells what it answers: " + line, needsNone);
        statements.append(line).append('\n');
    }

    private static void run(String source) throws Exception {
        Path place = Files.createTempDirectory("readme");
        Path file = place.resolve("ReadmeExample.java");
        Files.writeString(file, source);
        JavaCompiler compiler = ToolProvider.getSystemJavaCompiler();
        int failed = compiler.run(null, null, null, "-nowarn", "-cp", System.getProperty("java.class.path"),
            "-d", place.toString(), file.toString());
        Check.due("README.md's example is compiled", failed, 0);
        if (failed == 0) {
            try (URLClassLoader loader = new URLClassLoader(new URL[] {place.toUri().toURL()})) {
                loader.loadClass("ReadmeExample").getMethod("main", String[].class).invoke(null, (Object) new String[0]);
            }
        }
        delete(place);
    }

    private static void delete(Path place) throws IOException {
        File[] files = place.toFile().listFiles();
        for (File file : files == null ? new File[0] : files) {
            Files.delete(file.toPath());
        }
        Files.delete(place);
    }
}
