import java.io.ByteArrayOutputStream;
import java.io.IOException;
import java.io.PrintStream;
import java.lang.reflect.Method;
import java.net.URL;
import java.net.URLClassLoader;
import java.nio.file.Files;
import java.nio.file.Path;
import java.util.Comparator;
import java.util.List;
import java.util.stream.Collectors;
import java.util.stream.Stream;
import javax.tools.ToolProvider;

/** The program in README.md prints what README.md says, which is worked out by hand; the path of the class is told. */
public final class ReadmeExample {
    private static Path readmeAbove(Path source) {
        Path folder = source.toAbsolutePath().normalize().getParent();
        while (folder != null && !Files.exists(folder.resolve("README.md"))) {
            folder = folder.getParent();
        }
        return folder == null ? Path.of("README.md") : folder.resolve("README.md");
    }

    /** What stands between ```kind and the next ```; "" if there is none. */
    private static String block(String readme, String kind) {
        String begin = "```" + kind + "\n";
        int from = readme.indexOf(begin);
        int to = from < 0 ? -1 : readme.indexOf("```", from + begin.length());
        return to < 0 ? "" : readme.substring(from + begin.length(), to);
    }

    private static String printedBy(Path folder) throws IOException, ReflectiveOperationException {
        PrintStream before = System.out;
        ByteArrayOutputStream printed = new ByteArrayOutputStream();
        // no parent, so that the class that was just compiled is the one that is used
        try (URLClassLoader loader = new URLClassLoader(new URL[] {folder.toUri().toURL()}, null)) {
            Method main = loader.loadClass("Caller").getMethod("main", String[].class);
            System.setOut(new PrintStream(printed, true));
            main.invoke(null, (Object) new String[0]);
        } finally {
            System.setOut(before);
        }
        return printed.toString();
    }

    private static void wipeOut(Path folder) throws IOException {
        try (Stream<Path> all = Files.walk(folder)) {
            for (Path path : all.sorted(Comparator.reverseOrder()).collect(Collectors.toList())) {
                Files.delete(path);
            }
        }
    }

    private static void dueLines(List<String> got, List<String> want) {
        Kit.due("lines printed", got.size(), want.size());
        for (int i = 0; i < want.size(); i++) {
            Kit.due("line " + (i + 1), i < got.size() ? got.get(i) : "", want.get(i));
        }
    }

    public static void main(String[] args) throws IOException, ReflectiveOperationException {
        Path source = Path.of(args[0]);
        String readme = Files.readString(readmeAbove(source));
        Path folder = Files.createTempDirectory("readme");
        try {
            Path caller = folder.resolve("Caller.java");
            Files.writeString(caller, block(readme, "java"));
            int failed = ToolProvider.getSystemJavaCompiler().run(null, null, null, "-d", folder.toString(),
                    source.toString(), caller.toString());
            Kit.due("the program in README.md compiles", failed, 0);
            String want = block(readme, "text");
            Kit.due("README.md says what is printed", !want.isEmpty(), true);
            dueLines(printedBy(folder).lines().collect(Collectors.toList()), want.lines().collect(Collectors.toList()));
        } finally {
            wipeOut(folder);
        }
        Kit.end("the program in README.md");
    }
}
