import java.lang.reflect.Constructor;
import java.lang.reflect.Field;
import java.lang.reflect.Method;
import java.lang.reflect.Modifier;
import java.io.IOException;
import java.nio.charset.StandardCharsets;
import java.nio.file.Files;
import java.nio.file.Path;
import java.util.HashSet;
import java.util.List;
import java.util.Set;
import java.util.TreeSet;
import java.util.regex.Matcher;
import java.util.regex.Pattern;

/** The face is the document's and no more; the source keeps to what LANGUAGE.md rules out in so many words. */
public final class FaceTest {
    private static final String FACE = """
        int feed(int, int, int, int, int)
        int text(int)
        int fault(int)
        int named(int)
        int arc(int, int, int)
        int built(int, int, int)
        long answer(int, int)
        int leads(int, int)
        long answerBuilt(int)
        int access(int)
        int kind(int)
        int separator(int, int)
        int splitter(int)
        int mark(int, int)
        int sign(int)
        int suite(int, int)
        int test(int, int)
        int way(int, int)
        int verdict(int, int)
        boolean isEqual()
        int witness()
        int enough(int)
        int mutants(int, int)
        int mutant(int, int)
        int parts(int, int)
        int small(int, int, int)
        int tree(int, int)
        int word(int)
        int covered(int)
        long ask(int)
        int forget()
        int suspects(int)
        int suspect(int)
        int next()
        int chance(int, int)
        boolean twist(int, int, int, int)
        boolean mend(int, int)
        boolean mutate(int)
        int undo()
        int keep()
        int back()
        int count(int)
        """;
    private static final List<String> RULED_OUT = List.of("->", "::", "catch", "finally", "synchronized", "assert",
        "Exact(", "Thread", "Random", "nanoTime", "currentTimeMillis", "package ", "HashMap", "double", "float",
        "try {", "hashCode", "toString", "getMessage", "while (true)", "for (;;)");

    private final Kit kit = new Kit("FaceTest");

    public static void main(String[] args) throws IOException {
        FaceTest test = new FaceTest();
        test.tryFace();
        test.trySource(Files.readString(Path.of("src/main/java/SuiteBench.java"), StandardCharsets.ISO_8859_1));
        test.kit.end();
    }

    private void tryFace() {
        Class<?> face = SuiteBench.class;
        kit.is("public and final", Modifier.isPublic(face.getModifiers()) && Modifier.isFinal(face.getModifiers()), true);
        Set<String> due = new TreeSet<>(FACE.lines().toList());
        Set<String> found = new TreeSet<>();
        Set<String> hidden = new HashSet<>();
        Set<String> names = new HashSet<>();
        for (Method method : face.getDeclaredMethods()) {
            if (Modifier.isPrivate(method.getModifiers()) || method.isSynthetic()) {
                hidden.add(method.getName());
            } else {
                found.add(line(method));
                names.add(method.getName());
            }
        }
        for (String line : due) {
            kit.is("the face has " + line, found.contains(line), true);
        }
        for (String line : found) {
            kit.is("the document has " + line, due.contains(line), true);
        }
        for (String name : hidden) {
            kit.is("a private method may be called " + name, names.contains(name), false);
        }
        for (Field field : face.getDeclaredFields()) {
            boolean open = !Modifier.isPrivate(field.getModifiers());
            kit.is("open field " + field.getName(), open, field.getName().equals("NONE"));
        }
        kit.is("constructors", face.getDeclaredConstructors().length, 1);
        for (Constructor<?> made : face.getDeclaredConstructors()) {
            kit.is("public constructor", Modifier.isPublic(made.getModifiers()) && made.getParameterCount() == 0, true);
        }
        kit.is("NONE", SuiteBench.NONE, -1);
        kit.is("classes", face.getDeclaredClasses().length <= 12, true);
        for (Class<?> inside : face.getDeclaredClasses()) {
            kit.is("static " + inside.getName(), Modifier.isStatic(inside.getModifiers()), true);
            kit.is("hidden " + inside.getName(), Modifier.isPublic(inside.getModifiers()), false);
        }
    }

    private static String line(Method method) {
        StringBuilder line = new StringBuilder();
        line.append(method.getReturnType().getName()).append(' ').append(method.getName()).append('(');
        for (int k = 0; k < method.getParameterCount(); k++) {
            line.append(k > 0 ? ", " : "").append(method.getParameterTypes()[k].getName());
        }
        return line.append(')').toString();
    }

    private void trySource(String source) {
        for (int k = 0; k < source.length(); k++) {
            if (source.charAt(k) > 126) {
                kit.is("sign at " + k, source.charAt(k), 0);
            }
        }
        String code = source.replaceAll("(?s)/\\*.*?\\*/", "").replaceAll("//[^\\n]*", "");
        for (String word : RULED_OUT) {
            kit.is("the source has " + word, code.contains(word), false);
        }
        Matcher imports = Pattern.compile("import ([\\w.]+);").matcher(code);
        while (imports.find()) {
            String name = imports.group(1);
            kit.is("import " + name, name.equals("java.util.Arrays") || name.equals("java.util.NoSuchElementException"), true);
        }
        Matcher thrown = Pattern.compile("throw new (\\w+)").matcher(code);
        int throwing = 0;
        while (thrown.find()) {
            throwing++;
        }
        kit.is("throw statements: those of arc", throwing, 2);
        Matcher calls = Pattern.compile("(Arrays|Math|Integer|System|Long)\\.(\\w+)").matcher(code);
        Set<String> allowed = Set.of("Arrays.fill", "Math.min", "Math.max", "Integer.bitCount", "System.arraycopy");
        while (calls.find()) {
            String call = calls.group();
            kit.is("call of " + call, allowed.contains(call) || source.contains("import java.util." + call), true);
        }
        tryLengths(source);
    }

    /** Methods stay short. */
    private void tryLengths(String source) {
        int begun = -1;
        String[] lines = source.split("\n");
        for (int k = 0; k < lines.length; k++) {
            boolean opens = lines[k].matches(" {4}(?: {4})?(?:\\w[\\w<>\\[\\], ]*)\\(.*\\).*\\{");
            begun = opens ? k : begun;
            if (begun >= 0 && lines[k].matches(" {4}(?: {4})?\\}") && indent(lines[k]) == indent(lines[begun])) {
                kit.is("a method of " + (k - begun + 1) + " lines at " + (begun + 1), k - begun + 1 <= 60, true);
                begun = -1;
            }
        }
    }

    private static int indent(String line) {
        return line.length() - line.stripLeading().length();
    }
}
