import java.io.File;
import java.lang.reflect.Method;
import java.lang.reflect.Modifier;
import java.net.URL;
import java.net.URLClassLoader;
import java.nio.charset.StandardCharsets;
import java.nio.file.Files;
import java.nio.file.Path;
import java.nio.file.Paths;
import java.util.Set;
import java.util.TreeSet;
import java.util.regex.Matcher;
import java.util.regex.Pattern;
import javax.tools.ToolProvider;

/** That the examples of README.md answer what it says, and that it tells of every call and every test. */
public final class ReadmeTest {
    /** A statement that calls the country, with the answer that is due behind it. */
    private static final Pattern EXAMPLE =
            Pattern.compile("(int \\w+ = )?(country\\.\\w+\\(.*\\)); *// (-?\\d+)(?!\\w).*");
    private static int wrong = 0;

    private static void tell(String what) {
        wrong++;
        System.out.println(what);
    }

    /** The examples go on from one another, so that they are one method; a block that is a method stands beside it. */
    private static String program(String readme) {
        StringBuilder methods = new StringBuilder();
        StringBuilder statements = new StringBuilder();
        int examples = 0;
        Matcher blocks = Pattern.compile("```java\n(.*?)```", Pattern.DOTALL).matcher(readme);
        while (blocks.find()) {
            if (blocks.group(1).startsWith("static ")) {
                methods.append(blocks.group(1));
                continue;
            }
            for (String line : blocks.group(1).split("\n")) {
                examples += line.startsWith("write(") ? 0 : 1;
                statements.append(checked(line)).append('\n');
            }
        }
        if (examples < 30) {
            tell("README.md has " + examples + " examples");
        }
        return "public final class Examples {\n" + methods
                + "static int due(String call, int got, int want, int[] wrong) { if (got != want) { wrong[0]++;"
                + " System.out.println(\"README.md: \" + call + \" answered \" + got + \", due is \" + want); }"
                + " return got; }\n"
                + "public static int wrong() {\nint[] wrong = new int[1];\n" + statements + "return wrong[0];\n}\n}\n";
    }

    private static String checked(String line) {
        Matcher example = EXAMPLE.matcher(line);
        if (example.matches()) {
            String begins = example.group(1) == null ? "" : example.group(1);
            String call = example.group(2);
            return begins + "due(\"" + call + "\", " + call + ", " + example.group(3) + ", wrong);";
        }
        if (line.contains("country.")) {
            tell("README.md does not say what is answered: " + line);
        }
        return line;
    }

    private static void examples(String readme) throws Exception {
        Path folder = Files.createTempDirectory("readme");
        Path source = folder.resolve("Examples.java");
        Files.writeString(source, program(readme));
        String classes = System.getProperty("java.class.path");
        int failed = ToolProvider.getSystemJavaCompiler().run(null, null, null, "-d", folder.toString(), "-cp", classes,
                source.toString());
        if (failed != 0) {
            tell("the examples of README.md can't be compiled");
        } else {
            try (URLClassLoader loader = new URLClassLoader(new URL[] {folder.toUri().toURL()})) {
                wrong += (Integer) loader.loadClass("Examples").getMethod("wrong").invoke(null);
            }
        }
        File[] files = folder.toFile().listFiles();
        for (File file : files == null ? new File[0] : files) {
            Files.delete(file.toPath());
        }
        Files.delete(folder);
    }

    private static void tellsOfAllCalls(String readme) {
        Set<String> told = new TreeSet<>();
        Matcher rows = Pattern.compile("(?m)^\\| `(\\w+)\\(([^)]*)\\)` \\|").matcher(readme);
        while (rows.find()) {
            told.add(rows.group(1) + "/" + (rows.group(2).isEmpty() ? 0 : rows.group(2).split(",").length));
        }
        Set<String> face = new TreeSet<>();
        for (Method method : BoughtKin.class.getDeclaredMethods()) {
            if (Modifier.isPublic(method.getModifiers())) {
                face.add(method.getName() + "/" + method.getParameterCount());
            }
        }
        if (!told.equals(face)) {
            tell("README.md tells of " + told + ", the face is " + face);
        }
    }

    private static void tellsOfAllTests(String readme, Path tests) {
        String[] names = tests.toFile().list();
        int seen = 0;
        for (String name : names == null ? new String[0] : names) {
            if (name.endsWith("Test.java")) {
                seen++;
                if (!readme.contains("| `" + name.substring(0, name.length() - 5) + "` |")) {
                    tell("README.md does not tell of " + name);
                }
            }
        }
        if (seen == 0) {
            tell("there are no tests in " + tests);
        }
    }

    public static void main(String[] args) throws Exception {
        Path source = Paths.get(args.length > 0 ? args[0] : "src/main/java/BoughtKin.java").toAbsolutePath();
        Path project = source.getParent().getParent().getParent().getParent();
        String readme = Files.readString(project.resolve("README.md"), StandardCharsets.UTF_8);
        examples(readme);
        tellsOfAllCalls(readme);
        tellsOfAllTests(readme, project.resolve("src/test/java"));
        System.out.println(wrong == 0 ? "README.md holds" : wrong + " faults in README.md");
        if (wrong != 0) {
            System.exit(1);
        }
    }
}
