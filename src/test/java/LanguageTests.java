import java.io.DataInputStream;
import java.io.IOException;
import java.lang.reflect.Method;
import java.lang.reflect.Modifier;
import java.nio.file.Files;
import java.nio.file.Path;
import java.util.ArrayList;
import java.util.Arrays;
import java.util.List;
import java.util.Set;
import java.util.TreeSet;
import java.util.regex.Matcher;
import java.util.regex.Pattern;

/** What of LANGUAGE.md can be seen from the source and the compiled class. */
public final class LanguageTests {
    private static final String SOURCE = "src/main/java/StepNets.java";
    private static final String[] FACE = {
        "alike", "alikeTo", "both", "classOf", "count", "element", "far", "fault", "feed", "generated", "kind", "mapped",
        "maps", "name", "other", "parts", "product", "quotient", "regular", "ring", "size", "sphere", "step", "subgroup",
        "symmetries", "tell", "undo", "way"
    };
    private static final String[] WORDS_THAT_ARE_NONE = {
        "throw", "try", "catch", "synchronized", "assert", "System.out", "Exact", "->", "::", "Thread", "Random",
        "hashCode", "toString", "package", "protected", "volatile", "Object", "import"
    };

    private static final Set<String> LIBRARY = Set.of(
        "java/lang/Object.<init>", "java/lang/String.length", "java/lang/String.charAt", "java/lang/Integer.bitCount",
        "java/lang/Math.max", "java/lang/Math.min", "java/lang/Math.floorMod", "java/lang/System.arraycopy"
    );

    public static void main(String[] args) throws IOException {
        String source = Files.readString(Path.of(SOURCE));
        String code = source.replaceAll("(?s)/\\*.*?\\*/", " ").replaceAll("//[^\n]*", " ").replaceAll("\"[^\"\n]*\"", "\"\"");
        for (String word : WORDS_THAT_ARE_NONE) {
            boolean isName = Character.isLetter(word.charAt(0));
            Pattern pattern = Pattern.compile(isName ? "\\b" + Pattern.quote(word) + "\\b" : Pattern.quote(word));
            Check.holds("no " + word, !pattern.matcher(code).find());
        }
        Check.holds("signs are 1 to 127", source.chars().allMatch(c -> c > 0 && c < 128));
        face();
        nestedClasses();
        methods(code);
        library();
        Check.end();
    }

    private static void face() {
        List<String> names = new ArrayList<>();
        for (Method method : StepNets.class.getDeclaredMethods()) {
            boolean isPublic = Modifier.isPublic(method.getModifiers());
            Check.holds(method + " is public or private", isPublic || Modifier.isPrivate(method.getModifiers()));
            if (isPublic) {
                names.add(method.getName());
            } else {
                Check.holds(method + " has a name of its own", !Arrays.asList(FACE).contains(method.getName()));
            }
        }
        Check.due("public methods", names.size(), FACE.length);
        Check.holds("the face", new TreeSet<>(names).equals(new TreeSet<>(Arrays.asList(FACE))));
        int fields = 0;
        for (var field : StepNets.class.getDeclaredFields()) {
            boolean isFace = field.getName().equals("NONE");
            Check.holds(field + " is seen as it should be", isFace == Modifier.isPublic(field.getModifiers()));
            Check.holds(field + " is private", isFace || Modifier.isPrivate(field.getModifiers()));
            fields += Modifier.isStatic(field.getModifiers()) ? 0 : 1;
        }
        Check.holds("at most twenty fields", fields <= 20);
        Check.holds("final", Modifier.isFinal(StepNets.class.getModifiers()));
    }

    private static void nestedClasses() {
        Class<?>[] nested = StepNets.class.getDeclaredClasses();
        Check.holds("at most twelve classes", nested.length + 1 <= 12);
        for (Class<?> inside : nested) {
            Check.holds(inside + " is static", Modifier.isStatic(inside.getModifiers()));
            int fields = 0;
            for (var field : inside.getDeclaredFields()) {
                boolean isStatic = Modifier.isStatic(field.getModifiers());
                fields += isStatic ? 0 : 1;
                Check.holds(field + " is final if static", !isStatic || Modifier.isFinal(field.getModifiers()));
            }
            Check.holds(inside + " has at most twenty fields", fields <= 20);
            for (Method method : inside.getDeclaredMethods()) {
                Check.holds(method + " has a name of its own", !Arrays.asList(FACE).contains(method.getName()));
                Check.holds(method + " has at most seven parameters", method.getParameterCount() <= 7);
            }
        }
    }

    private static void methods(String code) {
        Matcher heads = Pattern.compile("(?m)^( {4}| {8})[A-Za-z][^;=\n]*\\) \\{$").matcher(code);
        String[] lines = code.split("\n", -1);
        int many = 0;
        while (heads.find()) {
            int first = (int) code.substring(0, heads.start()).chars().filter(c -> c == '\n').count();
            int last = first;
            String close = heads.group(1) + "}";
            while (last < lines.length - 1 && !lines[last].equals(close)) {
                last++;
            }
            many++;
            Check.holds(heads.group() + " has at most sixty lines", last - first + 1 <= 60);
        }
        Check.holds("methods were found", many > 100);
    }

    /** What the compiled classes call of the library is what LANGUAGE.md lists, and of that what is used. */
    private static void library() throws IOException {
        List<Class<?>> all = new ArrayList<>(List.of(StepNets.class.getDeclaredClasses()));
        all.add(StepNets.class);
        int calls = 0;
        for (Class<?> each : all) {
            try (DataInputStream in = new DataInputStream(StepNets.class.getResourceAsStream(each.getName() + ".class"))) {
                for (String call : calledBy(in)) {
                    calls++;
                    Check.holds(each.getName() + " may use " + call, call.startsWith("StepNets") || LIBRARY.contains(call));
                }
            }
        }
        Check.holds("calls were found", calls > 50);
    }

    /** Methods and fields that a class file names, by its table of constants. */
    private static List<String> calledBy(DataInputStream in) throws IOException {
        in.skipBytes(8);
        int many = in.readUnsignedShort();
        String[] texts = new String[many];
        int[] first = new int[many];
        int[] second = new int[many];
        List<Integer> references = new ArrayList<>();
        List<String> called = new ArrayList<>();
        for (int i = 1; i < many; i++) {
            int tag = in.readUnsignedByte();
            switch (tag) {
                case 1 -> texts[i] = in.readUTF();
                case 3, 4 -> in.readInt();
                case 5, 6 -> {
                    in.readLong();
                    i++;
                }
                case 7, 8, 16 -> first[i] = in.readUnsignedShort();
                case 9, 10, 11, 12 -> {
                    first[i] = in.readUnsignedShort();
                    second[i] = in.readUnsignedShort();
                    if (tag < 12) {
                        references.add(i);
                    }
                }
                default -> {
                    called.add("what no class here may need: constant " + tag);
                    return called;
                }
            }
        }
        for (int i : references) {
            called.add(texts[first[first[i]]] + "." + texts[first[second[i]]]);
        }
        return called;
    }
}
