import java.io.File;
import java.lang.reflect.Method;
import java.net.URL;
import java.net.URLClassLoader;
import java.nio.file.Files;
import java.nio.file.Path;
import java.util.ArrayList;
import java.util.Comparator;
import java.util.List;
import java.util.TreeSet;
import java.util.regex.Matcher;
import java.util.regex.Pattern;
import java.util.stream.Stream;
import javax.tools.ToolProvider;

/** What README.md shows of the class: its Java blocks, compiled as one run, answer what stands behind each call. */
public final class ReadmeTests extends Bench {
    private static final Path README = Path.of("README.md");
    private static final Pattern BLOCK = Pattern.compile("(?ms)^```java\\n(.*?)^```$");
    private static final Pattern ASKED = Pattern.compile("\\s*(x\\.(\\w+)\\(.*\\)); +// (-?\\d+)\\b(?: \\((\\w+)\\))?.*");
    private static final Pattern CALL = Pattern.compile("\\bx\\.(\\w+)\\(");

    public static void main(String[] args) throws Exception {
        List<String> lines = linesOfBlocks();
        answers(lines);
        namesOfConstants(lines);
        everyCallIsShown(lines);
        end();
    }

    private static List<String> linesOfBlocks() throws Exception {
        List<String> lines = new ArrayList<>();
        Matcher block = BLOCK.matcher(Files.readString(README));
        while (block.find()) {
            lines.addAll(block.group(1).lines().toList());
        }
        due("there are blocks", lines.isEmpty() ? 0 : 1, 1);
        return lines;
    }

    /** Each line that tells an answer hands it over; all other lines stand as they are. */
    private static String asProgram(List<String> lines) {
        StringBuilder program = new StringBuilder("public final class ReadmeUse {\n");
        program.append("public static java.util.List<Long> answers() {\n");
        program.append("java.util.List<Long> got = new java.util.ArrayList<>();\n");
        for (String line : lines) {
            Matcher asked = ASKED.matcher(line);
            program.append(asked.matches() ? "got.add((long) " + asked.group(1) + ");" : line).append('\n');
        }
        return program.append("return got;\n}\n}\n").toString();
    }

    private static void answers(List<String> lines) throws Exception {
        Path folder = Files.createTempDirectory("readme");
        List<?> got = List.of();
        try {
            Path source = Files.writeString(folder.resolve("ReadmeUse.java"), asProgram(lines));
            int failed = ToolProvider.getSystemJavaCompiler().run(null, null, null, "--release", "17", "-cp",
                System.getProperty("java.class.path"), "-d", folder.toString(), source.toString());
            due("the blocks compile", failed, 0);
            if (failed == 0) {
                got = run(folder);
            }
        } finally {
            remove(folder);
        }
        int place = 0;
        for (String line : lines) {
            Matcher asked = ASKED.matcher(line);
            if (asked.matches() && place < got.size()) {
                due(asked.group(1), (Long) got.get(place), Long.parseLong(asked.group(3)));
                place++;
            }
        }
        due("as many answers as got", place, got.size());
    }

    private static List<?> run(Path folder) throws Exception {
        try (URLClassLoader loader = new URLClassLoader(new URL[] {folder.toUri().toURL()})) {
            return (List<?>) loader.loadClass("ReadmeUse").getMethod("answers").invoke(null);
        }
    }

    private static void remove(Path folder) throws Exception {
        try (Stream<Path> all = Files.walk(folder)) {
            all.sorted(Comparator.reverseOrder()).map(Path::toFile).forEach(File::delete);
        }
    }

    private static void namesOfConstants(List<String> lines) throws Exception {
        for (String line : lines) {
            Matcher asked = ASKED.matcher(line);
            if (asked.matches() && asked.group(4) != null) {
                int value = PortraitRank.class.getField(asked.group(4)).getInt(null);
                due(line.strip() + " names", value, Long.parseLong(asked.group(3)));
            }
        }
    }

    /** A call with no answer behind it is shown only where it writes the text. */
    private static void everyCallIsShown(List<String> lines) {
        TreeSet<String> shown = new TreeSet<>();
        for (String line : lines) {
            Matcher call = CALL.matcher(line);
            if (call.find()) {
                shown.add(call.group(1));
                due("an answer behind " + line.strip(), ASKED.matcher(line).matches() || call.group(1).equals("write") ? 1 : 0, 1);
            }
        }
        TreeSet<String> face = new TreeSet<>();
        for (Method method : PortraitRank.class.getMethods()) {
            if (method.getDeclaringClass() == PortraitRank.class) {
                face.add(method.getName());
            }
        }
        same("the calls shown", shown.toString(), face.toString());
    }
}
