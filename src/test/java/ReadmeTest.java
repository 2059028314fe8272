import java.io.IOException;
import java.lang.reflect.Field;
import java.lang.reflect.Method;
import java.lang.reflect.Modifier;
import java.net.URL;
import java.net.URLClassLoader;
import java.nio.file.Files;
import java.nio.file.Path;
import java.util.ArrayList;
import java.util.List;
import java.util.Map;
import java.util.regex.Matcher;
import java.util.regex.Pattern;
import javax.tools.ToolProvider;

/** Compiles and runs the examples of README.md, and compares the answers that it tells. */
public final class ReadmeTest {
    private static final Check CHECK = new Check();
    private static final Pattern EXAMPLE = Pattern.compile("(?s)```java\n(.*?)```");
    private static final Pattern ANSWER = Pattern.compile("(?m)^int (\\w+) = .*; *// (-?\\d+)");

    public static void main(String[] arguments) throws IOException, ReflectiveOperationException {
        String readme = Files.readString(Path.of("README.md"));
        examples(readme);
        names(readme);
        CHECK.close("ReadmeTest");
    }

    private static void examples(String readme) throws IOException, ReflectiveOperationException {
        int examples = 0;
        Matcher example = EXAMPLE.matcher(readme);
        while (example.find()) {
            examples++;
            CHECK.begin("example " + examples);
            compare(example.group(1));
        }
        CHECK.due("examples", 2, examples);
    }

    private static void compare(String code) throws IOException, ReflectiveOperationException {
        List<String> names = new ArrayList<>();
        List<Integer> answers = new ArrayList<>();
        Matcher answer = ANSWER.matcher(code);
        while (answer.find()) {
            names.add(answer.group(1));
            answers.add(Integer.valueOf(answer.group(2)));
        }
        CHECK.due("each number that is kept has its answer", code.split("(?m)^int ", -1).length - 1, names.size());
        int[] got = run(code, names);
        for (int place = 0; place < names.size(); place++) {
            CHECK.due(names.get(place), answers.get(place), got[place]);
        }
    }

    private static int[] run(String code, List<String> names) throws IOException, ReflectiveOperationException {
        Path folder = Files.createTempDirectory("readme");
        Path source = folder.resolve("Example.java");
        Path compiled = folder.resolve("Example.class");
        try {
            Files.writeString(source, "public class Example { public static int[] run() {\n" + code
                + "return new int[] {" + String.join(", ", names) + "}; } }\n");
            int exit = ToolProvider.getSystemJavaCompiler().run(null, null, null, "--release", "17",
                "-cp", System.getProperty("java.class.path"), "-d", folder.toString(), source.toString());
            CHECK.due("javac", 0, exit);
            if (exit != 0) {
                return new int[names.size()];
            }
            try (URLClassLoader loader = new URLClassLoader(new URL[] {folder.toUri().toURL()})) {
                return (int[]) loader.loadClass("Example").getMethod("run").invoke(null);
            }
        } finally {
            Files.deleteIfExists(compiled);
            Files.deleteIfExists(source);
            Files.deleteIfExists(folder);
        }
    }

    private static void names(String readme) throws ReflectiveOperationException {
        CHECK.begin("names");
        for (Method method : DobbyLoom.class.getDeclaredMethods()) {
            if (Modifier.isPublic(method.getModifiers())) {
                CHECK.holds(method.getName() + " is told", readme.contains("`" + method.getName() + "`"));
            }
        }
        Map<String, Integer> constants = Map.of(
            "INVALID_ARGUMENT", -1, "ILLEGAL_STATE", -2, "CAPACITY_EXCEEDED", -3, "NONE", -9);
        for (Map.Entry<String, Integer> constant : constants.entrySet()) {
            Field field = DobbyLoom.class.getField(constant.getKey());
            CHECK.due(constant.getKey(), constant.getValue(), field.getInt(null));
            CHECK.holds(constant.getKey() + " is told with its value",
                readme.contains("`" + constant.getKey() + "` (" + constant.getValue() + ")"));
        }
    }
}
