import java.lang.reflect.Constructor;
import java.lang.reflect.Field;
import java.lang.reflect.Method;
import java.lang.reflect.Modifier;
import java.nio.file.Files;
import java.nio.file.Path;
import java.util.ArrayList;
import java.util.List;
import java.util.Set;
import java.util.TreeSet;
import java.util.regex.Matcher;
import java.util.regex.Pattern;
import java.util.stream.Collectors;
import java.util.stream.Stream;

/** The face is the document's, and the source keeps to what can be seen of LANGUAGE.md. */
public final class Rules {
    private static int wrong = 0;

    public static void main(String[] args) throws Exception {
        face();
        members();
        source();
        System.out.println(wrong == 0 ? "the rules are kept" : wrong + " rules are broken");
        if (wrong != 0) System.exit(1);
    }

    private static void broken(String what) {
        wrong++;
        System.out.println(what);
    }

    private static void face() throws Exception {
        String doc = Files.readString(Path.of("../shared/DOC.md"));
        Matcher block = Pattern.compile("```java\n(.*?)```", Pattern.DOTALL).matcher(doc);
        if (!block.find()) throw new IllegalStateException("the document has no face");
        Set<String> due = new TreeSet<>();
        for (String line : block.group(1).split("\n")) {
            Matcher m = Pattern.compile("public (\\S+) ?(\\w*)\\((.*?)\\)(?: throws (.*))?;").matcher(line.trim());
            if (!m.matches()) continue;
            String parameters = m.group(3).replaceAll(" \\w+(,|$)", "$1").replace(" ", "");
            due.add(m.group(1) + " " + m.group(2) + "(" + parameters + ") " + (m.group(4) == null ? "" : m.group(4).replace(" ", "")));
        }
        Set<String> got = new TreeSet<>();
        for (Method m : LastLoaf.class.getDeclaredMethods()) {
            if (!Modifier.isPublic(m.getModifiers())) continue;
            got.add(m.getReturnType().getSimpleName() + " " + m.getName() + "(" + names(m.getParameterTypes()) + ") " + names(m.getExceptionTypes()));
        }
        for (Constructor<?> c : LastLoaf.class.getDeclaredConstructors()) got.add("LastLoaf (" + names(c.getParameterTypes()) + ") " + names(c.getExceptionTypes()));
        for (String s : due) if (!got.contains(s)) broken("missing: " + s);
        for (String s : got) if (!due.contains(s)) broken("not in the document: " + s);
        if (due.size() != 64) broken("the document's face has " + due.size() + " calls");
    }

    private static String names(Class<?>[] types) {
        return Stream.of(types).map(Class::getSimpleName).collect(Collectors.joining(","));
    }

    private static void members() {
        Class<?> face = LastLoaf.class;
        if (face.getModifiers() != (Modifier.PUBLIC | Modifier.FINAL)) broken("the class is not public and final");
        Set<String> names = Stream.of(face.getDeclaredMethods()).filter(m -> Modifier.isPublic(m.getModifiers())).map(Method::getName).collect(Collectors.toSet());
        List<Class<?>> classes = new ArrayList<>(List.of(face.getDeclaredClasses()));
        classes.add(face);
        if (classes.size() > 12) broken(classes.size() + " classes");
        for (Class<?> c : classes) {
            if (c != face && !Modifier.isStatic(c.getModifiers())) broken(c + " is not static");
            int fields = 0;
            for (Field f : c.getDeclaredFields()) {
                if (!Modifier.isStatic(f.getModifiers())) fields++;
                else if (!Modifier.isFinal(f.getModifiers())) broken(f + " is static and not final");
                if (c == face && !Modifier.isPrivate(f.getModifiers()) && !f.getName().equals("NONE")) broken(f + " can be seen");
            }
            if (fields > 20) broken(c + " has " + fields + " fields");
            for (Method m : c.getDeclaredMethods()) {
                if (m.getParameterCount() > 7) broken(m + " has too many parameters");
                boolean isFace = c == face && Modifier.isPublic(m.getModifiers());
                if (!isFace && names.contains(m.getName())) broken(m + " bears the name of a public one");
                if (c == face && !isFace && !Modifier.isPrivate(m.getModifiers())) broken(m + " can be seen");
            }
        }
    }

    private static void source() throws Exception {
        List<String> lines = Files.readAllLines(Path.of("src/main/java/LastLoaf.java"));
        Pattern bad = Pattern.compile("->|::|\\b(finally|synchronized|assert|try|catch|protected|transient|volatile|native|instanceof|var|System\\.(?!arraycopy)\\w+|\\w+Exact|hashCode|getMessage)\\b");
        int begin = 0;
        for (int i = 0; i < lines.size(); i++) {
            String code = lines.get(i).replaceAll("//.*|/\\*\\*.*\\*/|\"[^\"]*\"", "");
            if (bad.matcher(code).find()) broken("line " + (i + 1) + ": " + lines.get(i).trim());
            if (lines.get(i).length() > 120) broken("line " + (i + 1) + " is long");
            if (!lines.get(i).matches("\\p{ASCII}*")) broken("line " + (i + 1) + " has a sign above 127");
            if (code.startsWith("import") && !code.matches("import java\\.util\\.(Arrays|NoSuchElementException);")) broken(code);
            if (code.matches("(    |        )[^ ].*\\(.*\\{")) begin = i;
            if (code.matches("(    |        )}") && i - begin > 60) broken("the method from line " + (begin + 1) + " is long");
        }
    }
}
