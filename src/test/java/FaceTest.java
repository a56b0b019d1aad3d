import java.io.IOException;
import java.lang.reflect.Constructor;
import java.lang.reflect.Field;
import java.lang.reflect.Method;
import java.lang.reflect.Modifier;
import java.nio.charset.StandardCharsets;
import java.nio.file.Files;
import java.nio.file.Path;
import java.util.Set;
import java.util.TreeSet;
import java.util.regex.Matcher;
import java.util.regex.Pattern;

/** The face is the one that the document writes, and no more; each of its calls has a promise. */
public final class FaceTest {
    private static final Pattern BLOCK = Pattern.compile("(?s)```java\\n(.*?)```");
    private static final Pattern CALL = Pattern.compile("    public (\\w+ \\w+)\\(([^)]*)\\)( throws [\\w, ]+)?;");
    private static final Pattern PROMISE = Pattern.compile("## Promise (\\d+): (\\w+|A new object)\\n\\n`([^`]*)`");
    private static final int CALLS = 42;

    private final Kit kit = new Kit("FaceTest");

    public static void main(String[] args) throws IOException {
        FaceTest test = new FaceTest();
        String document = Files.readString(Path.of("../shared/DOC.md"), StandardCharsets.UTF_8);
        test.tryCalls(document);
        test.tryPromises(document);
        test.tryFields();
        test.tryMaking();
        test.tryClasses();
        test.kit.end();
    }

    private static Set<String> face() {
        Set<String> found = new TreeSet<>();
        for (Method method : SuiteBench.class.getDeclaredMethods()) {
            if (!Modifier.isPrivate(method.getModifiers()) && !method.isSynthetic()) {
                found.add(line(method));
            }
        }
        return found;
    }

    private static String line(Method method) {
        StringBuilder line = new StringBuilder();
        line.append(Modifier.toString(method.getModifiers())).append(' ').append(method.getReturnType().getName());
        line.append(' ').append(method.getName()).append('(');
        for (int k = 0; k < method.getParameterCount(); k++) {
            line.append(k > 0 ? ", " : "").append(method.getParameterTypes()[k].getName());
        }
        line.append(')');
        for (int k = 0; k < method.getExceptionTypes().length; k++) {
            line.append(k > 0 ? ", " : " throws ").append(method.getExceptionTypes()[k].getSimpleName());
        }
        return line.toString();
    }

    private void tryCalls(String document) {
        Matcher block = BLOCK.matcher(document);
        kit.is("the document writes the face", block.find(), true);
        Set<String> due = new TreeSet<>();
        for (String row : block.group(1).split("\n")) {
            Matcher call = CALL.matcher(row);
            if (call.matches()) {
                String types = call.group(2).replaceAll("(\\w+) \\w+", "$1");
                due.add("public " + call.group(1) + "(" + types + ")" + (call.group(3) == null ? "" : call.group(3)));
            }
        }
        kit.is("calls of the document", due.size(), CALLS);
        Set<String> found = face();
        for (String line : due) {
            kit.is("the face has " + line, found.contains(line), true);
        }
        for (String line : found) {
            kit.is("the document has " + line, due.contains(line), true);
        }
    }

    /** What stands below a promise is what stands in the face. */
    private void tryPromises(String document) {
        Set<String> names = new TreeSet<>();
        for (String line : face()) {
            names.add(line.replaceAll(".* (\\w+)\\(.*", "$1"));
        }
        Matcher promise = PROMISE.matcher(document);
        int number = 0;
        while (promise.find()) {
            number++;
            kit.is("the number of promise " + number, Integer.parseInt(promise.group(1)), number);
            if (number > 1) {
                kit.is("promise " + number + " is of a call", names.remove(promise.group(2)), true);
                kit.is("it stands in the face", document.contains("    public " + promise.group(3) + ";"), true);
            }
        }
        kit.is("promises", number, CALLS + 1);
        kit.is("calls without a promise: " + names, names.isEmpty(), true);
    }

    private void tryFields() {
        for (Field field : SuiteBench.class.getDeclaredFields()) {
            boolean open = !Modifier.isPrivate(field.getModifiers());
            kit.is("open field " + field.getName(), open, field.getName().equals("NONE"));
            if (open) {
                kit.is("it is", Modifier.toString(field.getModifiers()).equals("public static final"), true);
            }
        }
        kit.is("NONE", SuiteBench.NONE, -1);
    }

    private void tryMaking() {
        int modifiers = SuiteBench.class.getModifiers();
        kit.is("public and final", Modifier.isPublic(modifiers) && Modifier.isFinal(modifiers), true);
        kit.is("of Object alone", SuiteBench.class.getSuperclass() == Object.class, true);
        kit.is("of no interface", SuiteBench.class.getInterfaces().length, 0);
        kit.is("constructors", SuiteBench.class.getDeclaredConstructors().length, 1);
        for (Constructor<?> made : SuiteBench.class.getDeclaredConstructors()) {
            kit.is("public constructor", Modifier.isPublic(made.getModifiers()) && made.getParameterCount() == 0, true);
        }
    }

    private void tryClasses() {
        for (Class<?> inside : SuiteBench.class.getDeclaredClasses()) {
            kit.is("static " + inside.getName(), Modifier.isStatic(inside.getModifiers()), true);
            kit.is("hidden " + inside.getName(), Modifier.isPublic(inside.getModifiers()), false);
            kit.is("hidden " + inside.getName(), Modifier.isProtected(inside.getModifiers()), false);
        }
    }
}
