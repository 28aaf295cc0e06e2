import java.io.IOException;
import java.lang.reflect.Constructor;
import java.lang.reflect.Field;
import java.lang.reflect.Method;
import java.lang.reflect.Modifier;
import java.nio.charset.StandardCharsets;
import java.nio.file.Files;
import java.nio.file.Paths;
import java.util.Arrays;
import java.util.Set;
import java.util.TreeSet;

/** The face of the class, and those rules of its language that can be seen from its text. */
public final class LanguageTest {
    private static final String[] FACE = {
        "int NONE", "int SYNTAX", "int TOO_DEEP", "int TOO_LONG", "int CLOSED", "int TERMINAL", "int READING", "int WRITING",
        "int APPENDING", "int append(int,int,int,int,int)", "boolean truncate(int)", "int load()", "int errorOffset()",
        "int errorKind()", "int type()", "int run()", "int status()", "boolean isStopped()", "int begun()", "int forks()",
        "int jobCount()", "int jobStatus(int)", "int undo()", "int undoDepth()", "int handleKind(int)", "int variableCount()",
        "boolean isSet(long)", "int functionCount()", "boolean isDefined(long)", "long actionOf(int)", "boolean isPipefail()",
        "int fileCount()", "int fileNamed(long)", "int lineCount(int)", "int outputCount()", "int inputCount()", "int traceCount()",
        "int traceField(int,int)", "int failures()", "int formatLine(int,int)", "int formatOutput(int)", "int formatVariable(long)",
        "int formatHandles()", "int formatName(int)", "int formattedByte(int)"};

    private static final String[] FORBIDDEN = {"import ", "package ", "catch", "finally", "try {", "synchronized", "assert ", "->", "::",
        "static {", "Thread", "System.nano", "System.current", "Random", "Exact(", "equals(", "hashCode(", "toString("};

    private static int wrong;

    private static void wrong(String what) {
        wrong++;
        System.out.println(what);
    }

    private static String types(Class<?>[] types) {
        StringBuilder text = new StringBuilder();
        for (Class<?> type : types) {
            text.append(text.length() > 0 ? "," : "").append(type.getName());
        }
        return text.toString();
    }

    private static void face() {
        Set<String> face = new TreeSet<>();
        Set<String> open = new TreeSet<>();
        for (Field f : ShellCore.class.getDeclaredFields()) {
            if (!Modifier.isPrivate(f.getModifiers())) {
                open.add(f.getType().getName() + " " + f.getName());
            }
            if (Modifier.isStatic(f.getModifiers()) && !Modifier.isFinal(f.getModifiers())) {
                wrong("static state: " + f.getName());
            }
        }
        Set<String> names = new TreeSet<>();
        for (Method m : ShellCore.class.getDeclaredMethods()) {
            if (Modifier.isPublic(m.getModifiers())) {
                names.add(m.getName());
            }
            if (!Modifier.isPrivate(m.getModifiers())) {
                open.add(m.getReturnType().getName() + " " + m.getName() + "(" + types(m.getParameterTypes()) + ")");
            }
        }
        face.addAll(Arrays.asList(FACE));
        if (!open.equals(face)) {
            wrong("the face is " + open);
        }
        Constructor<?>[] constructors = ShellCore.class.getDeclaredConstructors();
        if (constructors.length != 1 || constructors[0].getParameterCount() != 0 || !Modifier.isPublic(constructors[0].getModifiers())) {
            wrong("the constructor");
        }
        if (!Modifier.isFinal(ShellCore.class.getModifiers())) {
            wrong("the class is not final");
        }
        inside(ShellCore.class, names);
    }

    private static void inside(Class<?> outer, Set<String> names) {
        int classes = 1;
        for (Class<?> inner : outer.getDeclaredClasses()) {
            classes++;
            if (Modifier.isPublic(inner.getModifiers()) || !Modifier.isStatic(inner.getModifiers())) {
                wrong("class " + inner.getSimpleName());
            }
            int fields = 0;
            for (Field f : inner.getDeclaredFields()) {
                fields += Modifier.isStatic(f.getModifiers()) ? 0 : 1;
            }
            if (fields > 20) {
                wrong(fields + " fields in " + inner.getSimpleName());
            }
            for (Method m : inner.getDeclaredMethods()) {
                if (names.contains(m.getName())) {
                    wrong("a method inside bears the name of a public one: " + m.getName());
                }
                if (m.getParameterCount() > 7) {
                    wrong("parameters of " + m.getName());
                }
            }
        }
        if (classes > 12) {
            wrong(classes + " classes");
        }
    }

    private static void text() throws IOException {
        byte[] bytes = Files.readAllBytes(Paths.get("src/main/java/ShellCore.java"));
        String[] lines = new String(bytes, StandardCharsets.ISO_8859_1).split("\n");
        int start = -1;
        for (int i = 0; i < lines.length; i++) {
            String code = lines[i].trim();
            if (code.startsWith("*") || code.startsWith("/")) {
                continue;
            }
            for (String part : FORBIDDEN) {
                if (code.contains(part)) {
                    wrong("line " + (i + 1) + " has " + part);
                }
            }
            for (int k = 0; k < lines[i].length(); k++) {
                if (lines[i].charAt(k) > 126) {
                    wrong("line " + (i + 1) + " has a sign above 126");
                }
            }
            boolean head = lines[i].matches(" {4}( {4})?[a-zA-Z].*\\) .*\\{") && !code.startsWith("private static final class");
            start = head ? i : start;
            if (start >= 0 && lines[i].matches(" {4}( {4})?\\}")) {
                if (i - start > 60) {
                    wrong("the method at line " + (start + 1) + " is long");
                }
                start = -1;
            }
        }
    }

    public static void main(String[] args) throws IOException {
        face();
        text();
        System.out.println(wrong == 0 ? "the rules are kept" : wrong + " faults");
        if (wrong != 0) {
            System.exit(1);
        }
    }
}
