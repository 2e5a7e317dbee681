import java.io.IOException;
import java.lang.reflect.Constructor;
import java.lang.reflect.Field;
import java.lang.reflect.Method;
import java.lang.reflect.Modifier;
import java.nio.charset.StandardCharsets;
import java.nio.file.Files;
import java.nio.file.Path;
import java.util.ArrayList;
import java.util.List;
import java.util.Set;
import java.util.TreeSet;
import java.util.regex.Matcher;
import java.util.regex.Pattern;

/** The public face, as the document writes it, and what of LANGUAGE.md can be looked up in the class or its source. */
public final class FaceTest {

    private static final Path DOCUMENT = Path.of("../shared/DOC.md");
    private static final Path SOURCE = Path.of("src/main/java/Cachebench.java");
    private static int wrong;

    private static void fault(String text) {
        wrong++;
        System.out.println(text);
    }

    private static String read(Path path) {
        try {
            return Files.readString(path, StandardCharsets.ISO_8859_1);
        } catch (IOException e) {
            throw new IllegalStateException(e);
        }
    }

    private static String names(Class<?>[] types) {
        List<String> names = new ArrayList<>();
        for (Class<?> type : types) names.add(type.getSimpleName());
        return String.join(", ", names);
    }

    private static Set<String> facePromised() {
        Set<String> face = new TreeSet<>();
        Matcher m = Pattern.compile("    public (\\w+) (\\w+)\\((.*?)\\)(?: throws (.*?))?;").matcher(read(DOCUMENT));
        while (m.find()) {
            String types = m.group(3).replaceAll("(\\w+) \\w+", "$1");
            face.add(m.group(1) + " " + m.group(2) + "(" + types + ") " + (m.group(4) == null ? "" : m.group(4)));
        }
        return face;
    }

    private static void face() {
        Set<String> face = new TreeSet<>();
        for (Method method : Cachebench.class.getDeclaredMethods()) {
            int modifiers = method.getModifiers();
            if (Modifier.isPublic(modifiers)) {
                face.add(method.getReturnType().getSimpleName() + " " + method.getName() + "("
                    + names(method.getParameterTypes()) + ") " + names(method.getExceptionTypes()));
            } else if (!Modifier.isPrivate(modifiers)) {
                fault("a method that is neither public nor private: " + method.getName());
            }
        }
        Set<String> promised = facePromised();
        if (promised.size() != 47) fault("methods that the document tells: " + promised.size());
        for (String method : promised) if (!face.contains(method)) fault("missing: " + method);
        for (String method : face) if (!promised.contains(method)) fault("not in the document: " + method);
        int constants = 0;
        for (Field field : Cachebench.class.getDeclaredFields()) {
            if (Modifier.isPublic(field.getModifiers())) constants++;
            else if (!Modifier.isPrivate(field.getModifiers())) fault("a field that is neither public nor private: " + field);
        }
        if (constants != 8) fault("public constants: " + constants);
        Constructor<?>[] constructors = Cachebench.class.getDeclaredConstructors();
        if (constructors.length != 1 || !Modifier.isPublic(constructors[0].getModifiers())) fault("the constructor");
        if (!Modifier.isFinal(Cachebench.class.getModifiers())) fault("the class is not final");
    }

    private static void classes() {
        Set<String> open = new TreeSet<>();
        for (Method method : Cachebench.class.getMethods()) {
            if (method.getDeclaringClass() == Cachebench.class) open.add(method.getName());
        }
        List<Class<?>> all = new ArrayList<>(List.of(Cachebench.class.getDeclaredClasses()));
        for (Class<?> inner : all) {
            if (!Modifier.isStatic(inner.getModifiers())) fault("not static: " + inner);
            if (Modifier.isPublic(inner.getModifiers())) fault("public: " + inner);
        }
        all.add(Cachebench.class);
        if (all.size() > 12) fault("classes: " + all.size());
        for (Class<?> one : all) {
            int fields = 0;
            for (Field field : one.getDeclaredFields()) {
                boolean isStatic = Modifier.isStatic(field.getModifiers());
                if (isStatic && !Modifier.isFinal(field.getModifiers())) fault("static, not final: " + field);
                if (!isStatic) fields++;
            }
            if (fields > 20) fault("fields of " + one + ": " + fields);
            for (Method method : one.getDeclaredMethods()) {
                if (method.getName().startsWith("lambda$")) fault("a lambda in " + one);
                if (method.getParameterCount() > 7) fault("parameters of " + method);
                if (Modifier.isPrivate(method.getModifiers()) && open.contains(method.getName())) {
                    fault("bears the name of a public method: " + method);
                }
            }
        }
    }

    private static void source() {
        String source = read(SOURCE);
        for (char c : source.toCharArray()) {
            if (c > 126 || c < 32 && c != '\n') fault("a sign in the source: " + (int) c);
        }
        String code = source.replaceAll("(?s)/\\*.*?\\*/", "").replaceAll("//.*", "");
        String[] barred = {"::", "\\bfinally\\b", "\\bassert\\b", "\\bsynchronized\\b", "Exact\\b",
            "\\bprotected\\b", "\\bnative\\b", "\\bThread\\b", "System\\.(?!arraycopy)", "\\bObject\\b", "\\bpackage\\b"};
        for (String word : barred) {
            Matcher m = Pattern.compile(word).matcher(code);
            if (m.find()) fault("in the source: " + word);
        }
        Matcher library = Pattern.compile("\\b(Integer|Long|Math|Arrays|System)\\.(\\w+)").matcher(code);
        Set<String> ofArrays = Set.of("Arrays.fill", "Arrays.copyOf", "Arrays.copyOfRange", "System.arraycopy");
        while (library.find()) {
            boolean isOfNumbers = library.group().matches("(Integer|Long|Math)\\..*");
            if (!isOfNumbers && !ofArrays.contains(library.group())) fault("of the library: " + library.group());
        }
        Matcher imports = Pattern.compile("import (.*);").matcher(code);
        while (imports.find()) {
            if (!imports.group(1).matches("java\\.util\\.(Arrays|ArrayList|List|Iterator|NoSuchElementException)")) {
                fault("import " + imports.group(1));
            }
        }
        Matcher thrown = Pattern.compile("throw (.*)").matcher(code);
        String kinds = "IllegalState|IllegalArgument|IndexOutOfBounds|Arithmetic|UnsupportedOperation|NoSuchElement|Runtime";
        while (thrown.find()) {
            boolean isTold = thrown.group(1).matches("new (" + kinds + ")Exception\\((\"[^\"]*\")?\\);.*");
            if (!isTold) fault("throw " + thrown.group(1));
        }
    }

    private static void methodLengths() {
        String[] lines = read(SOURCE).split("\n");
        for (int i = 0; i < lines.length; i++) {
            Matcher m = Pattern.compile("( {4}| {8})(?:\\w+ )*[\\w\\[\\]]+ \\w+\\(.*").matcher(lines[i]);
            if (!m.matches() || lines[i].endsWith(";")) continue;
            int end = i;
            while (end < lines.length && !lines[end].equals(m.group(1) + "}")) end++;
            if (end - i + 1 > 60) fault("a long method: " + lines[i].trim());
        }
    }

    public static void main(String[] args) {
        face();
        classes();
        source();
        methodLengths();
        System.out.println(wrong == 0 ? "the face and the source are as told" : wrong + " faults");
        if (wrong != 0) System.exit(1);
    }
}
