import java.lang.reflect.Field;
import java.lang.reflect.Method;
import java.lang.reflect.Modifier;
import java.nio.file.Files;
import java.nio.file.Path;
import java.util.ArrayList;
import java.util.List;
import java.util.TreeSet;
import java.util.regex.Matcher;
import java.util.regex.Pattern;

/** The class has the document's face and no more, and keeps the rules of LANGUAGE.md that can be looked up. */
public final class FaceTest {
    private static final Path DOCUMENT = Path.of("../shared/DOC.md");
    private static final Path SOURCE = Path.of("src/main/java/Doorledger.java");
    private static final Pattern FACE_LINE = Pattern.compile("    public (\\w+) (\\w+)\\(([^)]*)\\)(?: throws ([^;]+))?;");
    /** Signs of what the rules leave out: lambdas, method references, catches, wrappers of floats and the like. */
    private static final String[] RULED_OUT = {"->", "::", "\\bcatch\\b", "\\bfinally\\b", "\\bassert\\b", "Exact\\b",
        "\\bsynchronized\\b", "\\bFloat\\b", "\\bDouble\\b", "\\bObject\\b", "static \\{", "\\bString\\b.*\\+", "\\bprotected\\b",
        "\\bnew ArrayList<>\\(\\w", "\\bequals\\b", "\\bhashCode\\b", "\\btoString\\b"};

    private static final Checks checks = new Checks();

    public static void main(String[] args) throws Exception {
        face(Files.readString(DOCUMENT));
        members();
        classesInside();
        words(Files.readString(SOURCE));
        checks.end();
    }

    private static void face(String document) {
        TreeSet<String> due = new TreeSet<>();
        Matcher line = FACE_LINE.matcher(document.substring(0, document.indexOf("## Terms")));
        while (line.find()) {
            String types = line.group(3).replaceAll(" \\w+(,|$)", "$1");
            due.add(line.group(1) + " " + line.group(2) + "(" + types + ") throws " + line.group(4));
        }
        TreeSet<String> got = new TreeSet<>();
        for (Method method : Doorledger.class.getDeclaredMethods()) {
            if (Modifier.isPublic(method.getModifiers())) {
                got.add(method.getReturnType() + " " + method.getName() + "(" + names(method.getParameterTypes())
                    + ") throws " + (method.getExceptionTypes().length == 0 ? null : names(method.getExceptionTypes())));
            }
        }
        checks.due("the number of public methods", due.size(), 37);
        checks.due("the public methods", got, due);
    }

    private static String names(Class<?>[] types) {
        List<String> names = new ArrayList<>();
        for (Class<?> type : types) {
            names.add(type.getSimpleName());
        }
        return String.join(", ", names);
    }

    private static void members() {
        Class<?> all = Doorledger.class;
        checks.due("the class is public and final", all.getModifiers(), Modifier.PUBLIC | Modifier.FINAL);
        checks.due("the number of constructors", all.getDeclaredConstructors().length, 1);
        TreeSet<String> open = new TreeSet<>();
        for (Method method : all.getDeclaredMethods()) {
            if (Modifier.isPublic(method.getModifiers())) {
                open.add(method.getName());
            }
        }
        for (Method method : all.getDeclaredMethods()) {
            boolean isPrivate = Modifier.isPrivate(method.getModifiers());
            checks.due(method + " is public or private", isPrivate || Modifier.isPublic(method.getModifiers()), true);
            checks.due(method + " is private and bears the name of a public one", isPrivate && open.contains(method.getName()), false);
        }
        for (Field field : all.getDeclaredFields()) {
            checks.due(field + " is private", Modifier.isPrivate(field.getModifiers()), true);
        }
    }

    private static void classesInside() {
        Class<?>[] inside = Doorledger.class.getDeclaredClasses();
        checks.due("some twelve classes", inside.length < 12, true);
        for (Class<?> one : inside) {
            checks.due(one + " is static", Modifier.isStatic(one.getModifiers()), true);
            checks.due(one + " is private", Modifier.isPrivate(one.getModifiers()), true);
            int fields = 0;
            for (Field field : one.getDeclaredFields()) {
                boolean isStatic = Modifier.isStatic(field.getModifiers());
                fields += isStatic ? 0 : 1;
                checks.due(field + " is final where it is static", !isStatic || Modifier.isFinal(field.getModifiers()), true);
            }
            checks.due(one + " has some twenty fields", fields <= 20, true);
            for (Method method : one.getDeclaredMethods()) {
                checks.due(method + " takes at most seven parameters", method.getParameterCount() <= 7, true);
            }
        }
    }

    private static void words(String source) {
        String code = source.replaceAll("(?s)/\\*.*?\\*/", "").replaceAll("//[^\n]*", "").replaceAll("\"[^\"\n]*\"", "\"\"");
        for (String sign : RULED_OUT) {
            checks.due("the source has " + sign, Pattern.compile(sign).matcher(code).find(), false);
        }
        Matcher imported = Pattern.compile("import ([^;]+);").matcher(code);
        while (imported.find()) {
            boolean listed = List.of("java.util.ArrayList", "java.util.Arrays", "java.util.NoSuchElementException").contains(imported.group(1));
            checks.due("import " + imported.group(1) + " is listed", listed, true);
        }
        checks.due("the source has signs above 127", source.chars().anyMatch(sign -> sign > 127), false);
    }
}
