import java.io.IOException;
import java.io.UncheckedIOException;
import java.lang.reflect.Constructor;
import java.lang.reflect.Field;
import java.lang.reflect.Member;
import java.lang.reflect.Method;
import java.lang.reflect.Modifier;
import java.nio.charset.StandardCharsets;
import java.nio.file.Files;
import java.nio.file.Path;
import java.util.ArrayList;
import java.util.List;
import java.util.TreeSet;
import java.util.regex.Matcher;
import java.util.regex.Pattern;

/** The public face, and as much of ../shared/LANGUAGE.md as can be told from the class and its text. */
public final class FaceTest {
    private static final Path SOURCE = Path.of("src/main/java/HillHouses.java");
    private static final Path DOCUMENT = Path.of("../shared/DOC.md");
    private static final Pattern CALL = Pattern.compile("\\bint (\\w+)\\(([^)]*)\\)");
    private static final Pattern CONSTANT = Pattern.compile("\\b([A-Z]+) = (-\\d+)");
    private static final String FACE = face();
    private static final List<String> CALLS = callsIn(FACE);
    private static final String NOT_OURS = "\\b(throw|throws|try|catch|finally|synchronized|assert|volatile|native|var|"
        + "yield|System\\.(?!arraycopy)\\w+|Thread|Random|Object|Class|float|double|equals|hashCode|toString|"
        + "\\w+Exact)\\b|->|::|\\.\\.\\.|@";

    public static void main(String[] args) throws IOException, ReflectiveOperationException {
        promises();
        constants();
        methods();
        hiddenMembers();
        classesInside();
        text();
        Check.end("FaceTest");
    }

    private static List<String> document() {
        try {
            return Files.readAllLines(DOCUMENT, StandardCharsets.UTF_8);
        } catch (IOException e) {
            throw new UncheckedIOException(e);
        }
    }

    /** What the document tells of the public face, from its first line to its last. */
    private static String face() {
        List<String> lines = document();
        int from = lines.indexOf("public final class HillHouses {");
        return String.join("\n", lines.subList(from, from + lines.subList(from, lines.size()).indexOf("}")));
    }

    /** The calls that are told in a text, each with the types that it takes: feed(JI). */
    private static List<String> callsIn(String text) {
        List<String> calls = new ArrayList<>();
        Matcher m = CALL.matcher(text);
        while (m.find()) {
            String types = m.group(2).replaceAll("int \\w+", "I").replaceAll("long \\w+", "J").replace(", ", "");
            calls.add(m.group(1) + "(" + types + ")");
        }
        return calls;
    }

    private static void promises() {
        List<String> told = new ArrayList<>();
        for (String line : document()) {
            if (line.startsWith("`int ")) {
                told.addAll(callsIn(line.substring(0, line.indexOf("`:"))));
            }
        }
        Check.due("calls of the face", CALLS.size(), 29);
        is("the promises tell the calls of the face: " + told, told.equals(CALLS));
    }

    private static void constants() throws ReflectiveOperationException {
        Matcher m = CONSTANT.matcher(FACE);
        int told = 0;
        for (; m.find(); told++) {
            Check.due(m.group(1), HillHouses.class.getField(m.group(1)).getInt(null), Integer.parseInt(m.group(2)));
        }
        Check.due("public constants", HillHouses.class.getFields().length, told);
    }

    private static void is(String what, boolean holds) {
        Check.due(what, holds ? 1 : 0, 1);
    }

    private static void methods() {
        is("a public final class", HillHouses.class.getModifiers() == (Modifier.PUBLIC | Modifier.FINAL));
        TreeSet<String> found = new TreeSet<>();
        for (Method m : HillHouses.class.getDeclaredMethods()) {
            if (Modifier.isPublic(m.getModifiers())) {
                StringBuilder s = new StringBuilder(m.getName()).append('(');
                for (Class<?> type : m.getParameterTypes()) {
                    s.append(type == long.class ? "J" : type == int.class ? "I" : type.getName());
                }
                found.add(s.append(')').toString());
                is(m + " answers an int", m.getReturnType() == int.class && m.getModifiers() == Modifier.PUBLIC);
            }
        }
        is("the methods of the face: " + found, found.equals(new TreeSet<>(CALLS)));
        Constructor<?>[] made = HillHouses.class.getDeclaredConstructors();
        is("one constructor", made.length == 1 && made[0].getParameterCount() == 0
            && made[0].getModifiers() == Modifier.PUBLIC);
    }

    private static boolean isHiddenOrFace(Member member) {
        return Modifier.isPrivate(member.getModifiers()) || Modifier.isPublic(member.getModifiers());
    }

    private static void hiddenMembers() {
        TreeSet<String> publicNames = new TreeSet<>();
        for (String method : CALLS) {
            publicNames.add(method.substring(0, method.indexOf('(')));
        }
        for (Method m : HillHouses.class.getDeclaredMethods()) {
            is(m + " is public or private", isHiddenOrFace(m));
            is(m + " bears no public name", Modifier.isPublic(m.getModifiers()) || !publicNames.contains(m.getName()));
        }
        for (Field f : HillHouses.class.getDeclaredFields()) {
            is(f + " is public or private", isHiddenOrFace(f));
        }
        for (Class<?> inside : HillHouses.class.getDeclaredClasses()) {
            for (Method m : inside.getDeclaredMethods()) {
                is(m + " bears no public name", !publicNames.contains(m.getName()));
            }
        }
    }

    private static void classesInside() {
        List<Class<?>> all = new ArrayList<>(List.of(HillHouses.class.getDeclaredClasses()));
        is("some twelve classes", all.size() <= 11);
        for (Class<?> inside : all) {
            is(inside + " is static, and not public", Modifier.isStatic(inside.getModifiers())
                && (inside.getModifiers() & (Modifier.PUBLIC | Modifier.PROTECTED)) == 0);
        }
        all.add(HillHouses.class);
        for (Class<?> each : all) {
            int fields = 0;
            for (Field f : each.getDeclaredFields()) {
                boolean isStatic = Modifier.isStatic(f.getModifiers());
                fields += isStatic ? 0 : 1;
                is(f + " is no static state", !isStatic || Modifier.isFinal(f.getModifiers()));
            }
            is(each + " has some twenty fields", fields <= 20);
            for (Method m : each.getDeclaredMethods()) {
                is(m + " takes at most seven", m.getParameterCount() <= 7);
            }
        }
    }

    private static void text() throws IOException {
        String source = Files.readString(SOURCE, StandardCharsets.UTF_8);
        is("signs 1 to 127 alone", source.chars().allMatch(c -> c < 128));
        String code = source.replaceAll("(?s)/\\*.*?\\*/", "").replaceAll("//[^\n]*", "");
        Matcher m = Pattern.compile(NOT_OURS).matcher(code);
        while (m.find()) {
            is("'" + m.group() + "' is not of the language", false);
        }
        Matcher imports = Pattern.compile("import ([\\w.]+);").matcher(code);
        while (imports.find()) {
            is("import of " + imports.group(1), List.of("java.util.Arrays", "java.util.ArrayList", "java.util.List",
                "java.util.Iterator").contains(imports.group(1)));
        }
        is("no package", !code.contains("package "));
        int begun = 0;
        String[] lines = source.split("\n");
        for (int k = 0; k < lines.length; k++) {
            if (lines[k].matches(" +[\\w\\[\\]<> ]+\\([\\w\\[\\], ]*\\) \\{")) {
                begun = k;
            }
            if (lines[k].matches(" {4,8}\\}")) {
                is("the method that ends in line " + (k + 1) + " is short", k - begun <= 60 || lines[k].length() == 5);
            }
            is("line " + (k + 1) + " is narrow", lines[k].length() <= 120);
        }
    }
}
