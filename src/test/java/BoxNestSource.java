import java.io.IOException;
import java.lang.reflect.Constructor;
import java.lang.reflect.Field;
import java.lang.reflect.Method;
import java.lang.reflect.Modifier;
import java.nio.charset.StandardCharsets;
import java.nio.file.Files;
import java.nio.file.Path;
import java.util.Set;
import java.util.TreeSet;
import java.util.regex.Matcher;
import java.util.regex.Pattern;

/** What of LANGUAGE.md can be seen from the class and its source: the face, and what may not stand in it. */
public final class BoxNestSource {
    private static final String SOURCE = "src/main/java/BoxNest.java";
    private static final String[] FACE = {"box(int,int,int,int,int,int,boolean,int)", "truck(int,int,int)", "share(int)", "axles(int,int,int,int)",
        "side(int)", "wrong(int,int,int,int,boolean)", "place(int,int,int,int,boolean)", "set(int)", "take(int)", "clear()", "best(int)",
        "about(int,int)", "at(int,int,int)", "axle(int,int,int)", "over(int)", "fit()", "cut(int,int,int)", "piece(int,int)", "trucks(int)",
        "shown(int)", "count(int)"};
    private static final String[] BANNED = {"throw", "throws", "try", "catch", "synchronized", "assert", "package", "protected", "native",
        "volatile", "transient", "strictfp", "var", "System", "Thread", "Random", "Object", "Exception", "addExact", "multiplyExact"};

    private static int wrong = 0;

    private static void must(boolean holds, String what) {
        if (!holds) {
            wrong++;
            System.out.println("not so: " + what);
        }
    }

    public static void main(String[] args) throws IOException {
        face();
        members();
        text(Files.readString(Path.of(SOURCE), StandardCharsets.ISO_8859_1));
        System.out.println(wrong == 0 ? "the source keeps what can be seen" : wrong + " rules are not kept");
        if (wrong != 0) {
            System.exit(1);
        }
    }

    private static void face() {
        must(Modifier.isPublic(BoxNest.class.getModifiers()) && Modifier.isFinal(BoxNest.class.getModifiers()), "public final class");
        Set<String> want = new TreeSet<>(Set.of(FACE));
        Set<String> got = new TreeSet<>();
        for (Method method : BoxNest.class.getDeclaredMethods()) {
            if (!Modifier.isPrivate(method.getModifiers())) {
                got.add(signature(method));
                must(method.getReturnType() == int.class && Modifier.isPublic(method.getModifiers()) && !Modifier.isStatic(method.getModifiers()),
                        signature(method) + " is a public method that answers an int");
            }
        }
        must(got.equals(want), "methods of the face: " + got);
        Constructor<?>[] made = BoxNest.class.getDeclaredConstructors();
        must(made.length == 1 && made[0].getParameterCount() == 0 && Modifier.isPublic(made[0].getModifiers()), "one public constructor");
        Set<String> constants = new TreeSet<>();
        for (Field field : BoxNest.class.getDeclaredFields()) {
            if (!Modifier.isPrivate(field.getModifiers())) {
                constants.add(field.getName());
                must(Modifier.isPublic(field.getModifiers()) && Modifier.isStatic(field.getModifiers()) && Modifier.isFinal(field.getModifiers()),
                        field.getName() + " is a constant");
            }
        }
        must(constants.equals(new TreeSet<>(Set.of("NONE", "RANGE", "FULL", "STATE"))), "constants of the face: " + constants);
        must(BoxNest.NONE == -1 && BoxNest.RANGE == -2 && BoxNest.FULL == -3 && BoxNest.STATE == -4, "the constants' numbers");
    }

    private static String signature(Method method) {
        StringBuilder text = new StringBuilder(method.getName()).append('(');
        for (int i = 0; i < method.getParameterCount(); i++) {
            text.append(i == 0 ? "" : ",").append(method.getParameterTypes()[i].getName());
        }
        return text.append(')').toString();
    }

    private static void members() {
        Class<?>[] inside = BoxNest.class.getDeclaredClasses();
        must(inside.length <= 12, "at most twelve classes");
        Set<String> names = new TreeSet<>();
        for (Method method : BoxNest.class.getMethods()) {
            names.add(method.getName());
        }
        members(BoxNest.class, names);
        for (Class<?> one : inside) {
            must(Modifier.isStatic(one.getModifiers()) && !Modifier.isPublic(one.getModifiers()) && !Modifier.isProtected(one.getModifiers()),
                    one + " is static and not seen from outside");
            members(one, names);
        }
    }

    private static void members(Class<?> one, Set<String> publicNames) {
        int fields = 0;
        for (Field field : one.getDeclaredFields()) {
            boolean isStatic = Modifier.isStatic(field.getModifiers());
            fields += isStatic ? 0 : 1;
            must(!isStatic || Modifier.isFinal(field.getModifiers()), one + ": static " + field.getName() + " is final");
        }
        must(fields <= 20, one + " has at most twenty fields");
        for (Method method : one.getDeclaredMethods()) {
            boolean ofFace = one == BoxNest.class && Modifier.isPublic(method.getModifiers());
            must(ofFace || method.getParameterCount() <= 7, method + " takes at most seven");
            must(ofFace || !publicNames.contains(method.getName()), method + " bears no public one's name");
            must(!method.isSynthetic(), method + " is written out");
        }
    }

    private static void text(String source) {
        String code = source.replaceAll("(?s)/\\*.*?\\*/", " ").replaceAll("//[^\n]*", " ");
        for (String word : BANNED) {
            must(!Pattern.compile("\\b" + word + "\\b").matcher(code).find(), "no " + word);
        }
        must(!code.contains("->") && !code.contains("::") && !code.contains("\"") && !code.contains("@"), "no lambdas, references, texts, marks");
        Matcher imports = Pattern.compile("import ([^;]*);").matcher(code);
        while (imports.find()) {
            must(imports.group(1).equals("java.util.Arrays"), "import of " + imports.group(1));
        }
        must(!Pattern.compile("while \\(true\\)|for \\(;;\\)").matcher(code).find(), "every loop has an end");
        for (int i = 0; i < source.length(); i++) {
            if (source.charAt(i) > 127) {
                must(false, "plain signs");
                break;
            }
        }
        methodLengths(source);
    }

    /** A method is a line that opens a brace four or eight spaces deep, up to the line that closes it. */
    private static void methodLengths(String source) {
        String[] lines = source.split("\n");
        for (int i = 0; i < lines.length; i++) {
            Matcher head = Pattern.compile("^( {4}| {8})\\S.*\\) \\{$").matcher(lines[i]);
            if (head.find()) {
                int end = i;
                while (end < lines.length && !lines[end].equals(head.group(1) + "}")) {
                    end++;
                }
                must(end - i < 60, "short: " + lines[i].trim());
            }
        }
    }
}
