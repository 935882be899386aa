import java.io.IOException;
import java.io.UncheckedIOException;
import java.lang.reflect.Constructor;
import java.lang.reflect.Executable;
import java.lang.reflect.Field;
import java.lang.reflect.Method;
import java.lang.reflect.Modifier;
import java.nio.charset.StandardCharsets;
import java.nio.file.Files;
import java.nio.file.Path;
import java.util.ArrayList;
import java.util.List;
import java.util.Set;
import java.util.TreeSet;
import java.util.regex.Matcher;
import java.util.regex.Pattern;

/**
 * The class must have the face that ../shared/DOC.md writes down and no other member that is not
 * private, and the tables of README.md must tell each call with its arguments and exceptions.
 */
public final class FaceTest {
    private static final Path DOCUMENT = Path.of("../shared/DOC.md");
    private static final Path README = Path.of("README.md");
    private static final Pattern ROW = Pattern.compile("\\| `(\\w+)\\((.*?)\\)` \\|(.*)\\|(.*)\\|");

    private static int wrong;

    public static void main(String[] args) {
        if (Files.exists(DOCUMENT)) same("the document's face", face(), documentFace());
        else System.out.println(DOCUMENT + " is not there: the face is not held against it");
        same("README.md", calls(), readmeCalls());
        if (wrong != 0) System.exit(1);
    }

    private static void same(String what, Set<String> ofClass, Set<String> told) {
        for (String row : told) {
            if (!ofClass.contains(row)) tell(what + " tells what the class has not: " + row);
        }
        for (String row : ofClass) {
            if (!told.contains(row)) tell(what + " does not tell: " + row);
        }
    }

    private static void tell(String fault) {
        wrong++;
        System.out.println(fault);
    }

    private static List<String> rows(Path file) {
        try {
            return Files.readAllLines(file, StandardCharsets.UTF_8);
        } catch (IOException e) {
            throw new UncheckedIOException(e);
        }
    }

    // ---- the face, with types in the place of the arguments

    private static Set<String> face() {
        Set<String> rows = new TreeSet<>();
        rows.add(Modifier.toString(ChunkCarriers.class.getModifiers()) + " class ChunkCarriers");
        for (Field f : ChunkCarriers.class.getDeclaredFields()) {
            if (Modifier.isPrivate(f.getModifiers())) continue;
            rows.add(modifiers(f.getModifiers()) + f.getType() + " " + f.getName() + " = " + ChunkCarriers.NONE);
        }
        for (Constructor<?> c : ChunkCarriers.class.getDeclaredConstructors()) {
            if (!Modifier.isPrivate(c.getModifiers())) rows.add(modifiers(c.getModifiers()) + signature(c));
        }
        for (Method m : ChunkCarriers.class.getDeclaredMethods()) {
            if (m.isSynthetic() || Modifier.isPrivate(m.getModifiers())) continue;
            rows.add(modifiers(m.getModifiers()) + m.getReturnType() + " " + signature(m));
        }
        return rows;
    }

    private static String modifiers(int modifiers) {
        String words = Modifier.toString(modifiers);
        return words.isEmpty() ? "" : words + " ";
    }

    private static String signature(Executable e) {
        List<String> types = new ArrayList<>();
        for (Class<?> type : e.getParameterTypes()) types.add(type.getSimpleName());
        String exceptions = String.join(", ", exceptions(e));
        return e.getName() + "(" + String.join(", ", types) + ")" + (exceptions.isEmpty() ? "" : " throws " + exceptions);
    }

    private static List<String> exceptions(Executable e) {
        List<String> names = new ArrayList<>();
        for (Class<?> type : e.getExceptionTypes()) names.add(type.getSimpleName());
        return names;
    }

    private static Set<String> documentFace() {
        Set<String> rows = new TreeSet<>();
        boolean inside = false;
        for (String row : rows(DOCUMENT)) {
            if (row.startsWith("```")) inside = row.equals("```java");
            else if (inside && row.strip().startsWith("public")) rows.add(withoutNames(row.strip()));
        }
        return rows;
    }

    private static String withoutNames(String row) {
        return row.replaceAll("[ ;{]+$", "").replaceAll("(int|long) \\w+(?=[,)])", "$1");
    }

    // ---- the calls, with the number of their arguments

    private static Set<String> calls() {
        Set<String> rows = new TreeSet<>();
        for (Method m : ChunkCarriers.class.getDeclaredMethods()) {
            if (Modifier.isPublic(m.getModifiers())) rows.add(call(m.getName(), m.getParameterCount(), exceptions(m)));
        }
        return rows;
    }

    private static Set<String> readmeCalls() {
        Set<String> rows = new TreeSet<>();
        for (String row : rows(README)) {
            Matcher m = ROW.matcher(row);
            if (!m.matches()) continue;
            int arguments = m.group(2).isEmpty() ? 0 : m.group(2).split(",").length;
            if (!rows.add(call(m.group(1), arguments, thrown(m.group(4))))) tell("README.md tells twice: " + row);
        }
        return rows;
    }

    private static List<String> thrown(String cell) {
        List<String> names = new ArrayList<>();
        Matcher m = Pattern.compile("`(\\w+)`").matcher(cell);
        while (m.find()) names.add(m.group(1) + "Exception");
        return names;
    }

    private static String call(String name, int arguments, List<String> exceptions) {
        return name + " with " + arguments + " arguments, throws " + exceptions;
    }
}
