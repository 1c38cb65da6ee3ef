import java.io.File;
import java.io.IOException;
import java.lang.reflect.InvocationTargetException;
import java.lang.reflect.Method;
import java.nio.charset.StandardCharsets;
import java.nio.file.Files;
import java.nio.file.Path;
import java.util.HashMap;
import java.util.Map;
import java.util.Set;
import java.util.TreeSet;
import java.util.regex.Matcher;
import java.util.regex.Pattern;

/** What README.md says is so: the answers of its example, how a test is run, and which tests there are. */
public final class BoxNestReadme {
    private static final Pattern CALL = Pattern.compile("(?:int (\\w+) = )?nest\\.(\\w+)\\((.*?)\\); *// (-?\\d+).*");

    private static int wrong = 0;
    private static int asked = 0;

    private static void must(boolean holds, String what) {
        asked++;
        if (!holds) {
            wrong++;
            System.out.println("not so: " + what);
        }
    }

    public static void main(String[] args) throws IOException, ReflectiveOperationException {
        String readme = Files.readString(Path.of("README.md"), StandardCharsets.UTF_8);
        example(block(readme, "java", 0));
        runs(readme, Files.readString(Path.of(".ci/run"), StandardCharsets.UTF_8));
        tests(readme);
        System.out.println(asked + " asked: " + (wrong == 0 ? "README.md says what is so" : wrong + " are not so"));
        if (wrong != 0) {
            System.exit(1);
        }
    }

    private static String block(String readme, String kind, int number) {
        Matcher blocks = Pattern.compile("(?s)```" + kind + "\n(.*?)```").matcher(readme);
        for (int i = 0; blocks.find(); i++) {
            if (i == number) {
                return blocks.group(1);
            }
        }
        must(false, "block " + number + " of " + kind);
        return "";
    }

    private static void example(String code) throws ReflectiveOperationException {
        BoxNest nest = new BoxNest();
        Map<String, Integer> names = new HashMap<>();
        Set<String> called = new TreeSet<>();
        for (String line : code.split("\n")) {
            if (line.isEmpty() || line.startsWith("//") || line.equals("BoxNest nest = new BoxNest();")) {
                continue;
            }
            Matcher call = CALL.matcher(line);
            if (!call.matches()) {
                must(false, "a call with its answer: " + line);
                continue;
            }
            int got = answer(nest, call.group(2), call.group(3), names);
            must(got == Integer.parseInt(call.group(4)), line + " (answered " + got + ")");
            called.add(call.group(2));
            if (call.group(1) != null) {
                names.put(call.group(1), got);
            }
        }
        for (Method method : BoxNest.class.getDeclaredMethods()) {
            if (java.lang.reflect.Modifier.isPublic(method.getModifiers())) {
                must(called.contains(method.getName()), "the example shows " + method.getName());
            }
        }
    }

    private static int answer(BoxNest nest, String name, String list, Map<String, Integer> names) throws ReflectiveOperationException {
        String[] texts = list.isEmpty() ? new String[0] : list.split(", ");
        for (Method method : BoxNest.class.getDeclaredMethods()) {
            if (method.getName().equals(name) && method.getParameterCount() == texts.length) {
                Object[] values = new Object[texts.length];
                for (int i = 0; i < texts.length; i++) {
                    values[i] = method.getParameterTypes()[i] == boolean.class ? (Object) Boolean.valueOf(texts[i]) : (Object) number(texts[i], names);
                }
                return (Integer) method.invoke(nest, values);
            }
        }
        throw new InvocationTargetException(null, "no call " + name + " with " + texts.length);
    }

    /** A number, a name, or bits: 1 << name | 1 << name. */
    private static int number(String text, Map<String, Integer> names) {
        int bits = 0;
        for (String part : text.split(" \\| ")) {
            boolean shifted = part.startsWith("1 << ");
            String one = shifted ? part.substring(5) : part;
            int value = names.containsKey(one) ? names.get(one) : Integer.parseInt(one);
            bits |= shifted ? 1 << value : value;
        }
        return bits;
    }

    /** The lines for one test are those of .ci/run, with the test's name in them. */
    private static void runs(String readme, String script) {
        must(block(readme, "sh", 0).equals(".ci/run\n"), "all tests are run by .ci/run");
        String one = block(readme, "sh", 1);
        Matcher compiled = Pattern.compile("javac [^&\n]*").matcher(script);
        Matcher run = Pattern.compile("java -cp [^;\n]*").matcher(script);
        must(compiled.find() && run.find(), ".ci/run compiles and runs");
        String compiledOne = filled(compiled.group().trim());
        String runOne = filled(run.group().trim());
        must(one.contains("\n" + compiledOne + "\n"), "README.md compiles as .ci/run does: " + compiledOne);
        must(one.contains("\n" + runOne + " "), "README.md runs as .ci/run does: " + runOne);
        must(script.contains("../shared/tests/*.java src/test/java/*.java"), ".ci/run runs both directories' tests");
    }

    private static String filled(String line) {
        return line.replace("\"$classes\"", "/tmp/boxnest").replace("\"$test\"", "src/test/java/BoxNestAgainstPlain.java")
                .replace("\"$name\"", "BoxNestAgainstPlain");
    }

    private static void tests(String readme) {
        Set<String> listed = new TreeSet<>();
        Matcher rows = Pattern.compile("(?m)^- `(\\w+)`:").matcher(readme);
        while (rows.find()) {
            listed.add(rows.group(1) + ".java");
        }
        Set<String> there = new TreeSet<>();
        String[] files = new File("src/test/java").list();
        for (String file : files == null ? new String[0] : files) {
            there.add(file);
        }
        must(listed.equals(there), "README.md lists " + listed + ", there are " + there);
    }
}
