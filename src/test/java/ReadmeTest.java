import java.io.File;
import java.io.IOException;
import java.lang.reflect.Method;
import java.lang.reflect.Modifier;
import java.net.URL;
import java.net.URLClassLoader;
import java.nio.file.Files;
import java.nio.file.Path;
import java.util.ArrayList;
import java.util.List;
import java.util.regex.Matcher;
import java.util.regex.Pattern;
import java.util.stream.Stream;
import javax.tools.ToolProvider;

/** README.md tells the truth: its examples compile and answer as they say, and it names all that there is. */
public final class ReadmeTest {
    private static final Path README = Path.of("README.md");
    private static final Pattern BLOCK = Pattern.compile("```java\\n(.*?)```", Pattern.DOTALL);
    private static final Pattern TOLD = Pattern.compile("^(.*);\\s*// -> (-?\\d+)(\\s.*)?$");
    private static int wrong = 0;

    private ReadmeTest() {
    }

    private static void check(boolean holds, String what) {
        if (holds) return;
        wrong++;
        System.out.println(what);
    }

    private static List<String> blocks(String text) {
        List<String> all = new ArrayList<>();
        Matcher block = BLOCK.matcher(text);
        while (block.find()) all.add(block.group(1));
        return all;
    }

    /** The helper as a method, the calls as a main that ends with how many answers were not as told. */
    private static String program(String helper, String calls) {
        StringBuilder lines = new StringBuilder();
        for (String line : calls.split("\\n")) {
            Matcher told = TOLD.matcher(line);
            if (!told.matches()) lines.append(line).append('\n');
            else lines.append("due(\"").append(told.group(1).trim().replace("\"", "\\\"")).append("\", ")
                .append(told.group(1)).append(", ").append(told.group(2)).append(");\n");
        }
        return "public class Example {\nstatic int wrong = 0;\nstatic int looked = 0;\n"
            + "static void due(String call, int got, int due) { looked++; if (got != due) { wrong++;"
            + " System.out.println(\"README.md: \" + call + \" answered \" + got + \", told is \" + due); } }\n"
            + helper + "public static int[] look() {\n" + lines + "return new int[] {looked, wrong};\n}\n}\n";
    }

    private static void lookAtExample(List<String> blocks) throws Exception {
        Path folder = Files.createTempDirectory("readme");
        try {
            Path source = folder.resolve("Example.java");
            Files.writeString(source, program(blocks.get(0), blocks.get(1)));
            int failed = ToolProvider.getSystemJavaCompiler().run(null, null, null, "-proc:none", "-cp",
                System.getProperty("java.class.path"), "-d", folder.toString(), source.toString());
            check(failed == 0, "README.md: the example does not compile");
            if (failed != 0) return;
            try (URLClassLoader loader = new URLClassLoader(new URL[] {folder.toUri().toURL()})) {
                int[] sum = (int[]) loader.loadClass("Example").getMethod("look").invoke(null);
                check(sum[0] >= 20, "README.md: only " + sum[0] + " answers are told");
                wrong += sum[1];
                System.out.println("README.md: " + sum[0] + " answers told, " + sum[1] + " not so");
            }
        } finally {
            for (File file : folder.toFile().listFiles()) Files.delete(file.toPath());
            Files.delete(folder);
        }
    }

    private static void lookForNames(String text) throws IOException {
        for (Method method : SmokeRoom.class.getDeclaredMethods()) {
            if (!Modifier.isPublic(method.getModifiers())) continue;
            check(text.contains("`" + method.getName() + "`"), "README.md does not name " + method.getName());
        }
        try (Stream<Path> files = Files.list(Path.of("src", "test", "java"))) {
            for (Path file : (Iterable<Path>) files::iterator) {
                String name = file.getFileName().toString().replace(".java", "");
                check(text.contains("`" + name + "`"), "README.md does not name " + name);
            }
        }
        Matcher named = Pattern.compile("`([A-Z][A-Za-z]*(Test|Edges))`").matcher(text);
        while (named.find()) {
            boolean there = Files.exists(Path.of("src", "test", "java", named.group(1) + ".java"));
            check(there, "README.md names " + named.group(1) + ", which is not there");
        }
        check(text.contains("`bash .ci/run`") && Files.isExecutable(Path.of(".ci", "run")), "README.md: no .ci/run");
    }

    public static void main(String[] args) throws Exception {
        String text = Files.readString(README);
        List<String> blocks = blocks(text);
        check(blocks.size() == 2, "README.md: a helper and an example, found " + blocks.size());
        if (blocks.size() == 2) lookAtExample(blocks);
        lookForNames(text);
        if (wrong != 0) System.exit(1);
    }
}
