import java.net.URL;
import java.net.URLClassLoader;
import java.nio.file.Files;
import java.nio.file.Path;
import java.util.regex.Matcher;
import java.util.regex.Pattern;
import javax.tools.ToolProvider;

/** The example of README.md compiles, and each of its calls answers what the remark beside it begins with. */
public final class ReadmeTest {
    private static final Pattern TOLD = Pattern.compile("(int (\\w+) = )?(x\\.\\w+\\(.*\\)); +// (-?\\d+|[A-Z]+)\\b.*");
    private static int checks;

    /** The example's lines; where an answer is told, it is looked at. */
    private static String program(String example) {
        StringBuilder all = new StringBuilder("public final class Example { public static int run() { int wrong = 0;\n");
        for (String line : example.split("\n")) {
            Matcher told = TOLD.matcher(line);
            if (!told.matches()) {
                all.append(line).append('\n');
                continue;
            }
            String name = told.group(2) != null ? told.group(2) : "answer" + checks;
            String due = told.group(4).matches("-?\\d+") ? told.group(4) : "SeenWords." + told.group(4);
            all.append("int ").append(name).append(" = ").append(told.group(3)).append("; if (").append(name).append(" != ").append(due)
                .append(") { wrong++; System.out.println(\"README: \" + \"").append(line.trim().replace("\"", "'"))
                .append("\" + \" answered \" + ").append(name).append("); }\n");
            checks++;
        }
        return all.append("return wrong; } }\n").toString();
    }

    public static void main(String[] args) throws Exception {
        String readme = Files.readString(Path.of("README.md"));
        int start = readme.indexOf("```java\n") + 8;
        Path folder = Files.createTempDirectory("readme");
        Path source = folder.resolve("Example.java");
        Files.writeString(source, program(readme.substring(start, readme.indexOf("```", start))));
        int read = ToolProvider.getSystemJavaCompiler().run(null, null, null, "-proc:none", "-d", folder.toString(), source.toString(),
            "src/main/java/SeenWords.java");
        int wrong = 1;
        if (read == 0) {
            try (URLClassLoader loader = new URLClassLoader(new URL[] {folder.toUri().toURL()}, null)) {
                wrong = (int) loader.loadClass("Example").getMethod("run").invoke(null);
            }
        }
        try (var files = Files.list(folder)) {
            for (Path file : files.toList()) Files.delete(file);
        }
        Files.delete(folder);
        if (checks < 20) wrong++;
        System.out.println(wrong == 0 ? "readme: " + checks + " answers are as told" : "readme: " + wrong + " wrong");
        if (wrong != 0) System.exit(1);
    }
}
