import java.io.IOException;
import java.lang.reflect.InvocationTargetException;
import java.lang.reflect.Method;
import java.nio.charset.StandardCharsets;
import java.nio.file.Files;
import java.nio.file.Path;
import java.util.regex.Matcher;
import java.util.regex.Pattern;

/** The example of README.md is called line by line, and each answer is held against what stands behind it. */
public final class ReadmeTest {
    private static final Pattern BLOCK = Pattern.compile("(?s)```java\\n(.*?)```");
    private static final Pattern CALL = Pattern.compile("bench\\.(\\w+)\\(([^)]*)\\); *// (?:throws )?([\\w-]+).*");
    private static final String MAKING = "SuiteBench bench = new SuiteBench();";

    private final Kit kit = new Kit("ReadmeTest");
    private SuiteBench bench;

    public static void main(String[] args) throws IOException, IllegalAccessException {
        ReadmeTest test = new ReadmeTest();
        String text = Files.readString(Path.of("README.md"), StandardCharsets.UTF_8);
        Matcher block = BLOCK.matcher(text);
        test.kit.is("README.md has an example", block.find(), true);
        String[] lines = block.group(1).split("\n");
        for (String line : lines) {
            test.line(line);
        }
        test.tests(text);
        test.kit.end();
    }

    private void line(String line) throws IllegalAccessException {
        if (line.equals(MAKING)) {
            bench = new SuiteBench();
            return;
        }
        Matcher call = CALL.matcher(line);
        boolean is = call.matches();
        kit.is("a call and its answer: " + line, is || line.isEmpty(), true);
        if (is) {
            String got = answer(call.group(1), call.group(2).isEmpty() ? new String[0] : call.group(2).split(", "));
            kit.is(line + " answers " + got, got.equals(call.group(3)), true);
        }
    }

    private String answer(String name, String[] given) throws IllegalAccessException {
        Object[] numbers = new Object[given.length];
        for (int k = 0; k < given.length; k++) {
            numbers[k] = Integer.decode(given[k]);
        }
        for (Method method : SuiteBench.class.getMethods()) {
            if (method.getName().equals(name) && method.getParameterCount() == numbers.length) {
                try {
                    return String.valueOf(method.invoke(bench, numbers));
                } catch (InvocationTargetException e) {
                    return e.getCause().getClass().getSimpleName();
                }
            }
        }
        return "no such call";
    }

    /** Each test has its row. */
    private void tests(String text) throws IOException {
        try (java.util.stream.Stream<Path> files = Files.list(Path.of("src/test/java"))) {
            for (Path file : files.toList()) {
                String name = file.getFileName().toString().replace(".java", "");
                boolean told = name.endsWith("Test") ? text.contains("\n| " + name + " |") : text.contains("`" + name + "`");
                kit.is("README.md tells of " + name, told, true);
            }
        }
    }
}
