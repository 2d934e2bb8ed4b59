import java.io.IOException;
import java.lang.reflect.Field;
import java.lang.reflect.Method;
import java.lang.reflect.Modifier;
import java.nio.file.Files;
import java.nio.file.Path;
import java.util.ArrayList;
import java.util.List;
import java.util.Set;
import java.util.TreeSet;
import java.util.regex.Matcher;
import java.util.regex.Pattern;

/** The face as the document lists it, and those rules of LANGUAGE.md that can be looked at from outside. */
final class LanguageTest {
    private static final Due DUE = new Due();

    public static void main(String[] args) throws IOException {
        String document = Files.readString(Path.of("../shared/DOC.md"));
        String program = Files.readString(Path.of("src/main/java/WokenBorder.java"));
        theFace(document);
        theClassesInside();
        theWords(program);
        theMethods(program);
        DUE.finish("LanguageTest");
    }

    private static void theFace(String document) {
        Set<String> told = new TreeSet<>();
        Matcher m = Pattern.compile("    public (int|boolean) (\\w+)\\(([^)]*)\\)( throws \\w+)?;").matcher(document);
        while (m.find()) {
            told.add(m.group(1) + " " + m.group(2) + "(" + m.group(3).replaceAll(" \\w+(,|$)", "$1") + ")");
        }
        Set<String> there = new TreeSet<>();
        for (Method method : WokenBorder.class.getDeclaredMethods()) {
            if (!Modifier.isPrivate(method.getModifiers())) {
                List<String> types = new ArrayList<>();
                for (Class<?> type : method.getParameterTypes()) {
                    types.add(type.getSimpleName());
                }
                there.add(method.getReturnType() + " " + method.getName() + "(" + String.join(", ", types) + ")");
                DUE.due("rule 1: " + method + " is public", Modifier.isPublic(method.getModifiers()), true);
                DUE.due("rule 1: " + method + " is no static one", Modifier.isStatic(method.getModifiers()), false);
            }
        }
        DUE.due("the document lists 45 methods", told.size(), 45);
        DUE.due("rule 1: the face is the document's: " + told + there, told.equals(there), true);
        int open = 0;
        for (Field field : WokenBorder.class.getDeclaredFields()) {
            open += Modifier.isPrivate(field.getModifiers()) ? 0 : 1;
        }
        DUE.due("rule 1: no open field but the two constants", open, 2);
        DUE.due("rule 1: public and final", WokenBorder.class.getModifiers(), Modifier.PUBLIC | Modifier.FINAL);
        DUE.due("rule 1: one constructor", WokenBorder.class.getConstructors().length, 1);
    }

    private static void theClassesInside() {
        Set<String> face = new TreeSet<>();
        for (Method method : WokenBorder.class.getMethods()) {
            if (method.getDeclaringClass() == WokenBorder.class) {
                face.add(method.getName());
            }
        }
        List<Class<?>> classes = new ArrayList<>(List.of(WokenBorder.class.getDeclaredClasses()));
        DUE.due("rule 11: some twelve classes", classes.size() + 1 <= 12, true);
        for (Class<?> inside : classes) {
            DUE.due("rule 1: " + inside + " is static", Modifier.isStatic(inside.getModifiers()), true);
            DUE.due("rule 1: " + inside + " is no open one", Modifier.isPublic(inside.getModifiers()), false);
        }
        classes.add(WokenBorder.class);
        for (Class<?> one : classes) {
            int fields = 0;
            for (Field field : one.getDeclaredFields()) {
                boolean constant = Modifier.isStatic(field.getModifiers());
                fields += constant ? 0 : 1;
                DUE.due("rule 5: " + field, constant && !Modifier.isFinal(field.getModifiers()), false);
            }
            DUE.due("rule 11: some twenty fields of " + one + ", " + fields, fields <= 20, true);
            for (Method method : one.getDeclaredMethods()) {
                boolean open = Modifier.isPublic(method.getModifiers());
                DUE.due("rule 1: name of " + method, !open && face.contains(method.getName()), false);
                DUE.due("rule 11: seven parameters: " + method, method.getParameterCount() <= 7, true);
            }
        }
    }

    private static void theWords(String program) {
        String[] none = {"->", "::", "catch", "finally", "synchronized", "assert", "volatile", "native", "Exact(",
            "Random", "System.current", "System.nano", "System.out", "Thread", "String.format", "hashCode", "toString",
            "double", "float", "static {", "var ", "protected", "instanceof", "\t"};
        for (String word : none) {
            DUE.due("no '" + word + "' in the program", program.contains(word), false);
        }
        Set<String> imports = new TreeSet<>();
        Matcher m = Pattern.compile("import ([\\w.]+);").matcher(program);
        while (m.find()) {
            imports.add(m.group(1));
        }
        DUE.due("rule 4: imports " + imports,
                imports.equals(Set.of("java.util.Arrays", "java.util.NoSuchElementException")), true);
        DUE.due("rule 6: one throw", program.split("throw new").length - 1, 1);
        for (int i = 0; i < program.length(); i++) {
            if (program.charAt(i) > 126) {
                DUE.due("signs of the program at " + i, program.charAt(i), ' ');
            }
        }
    }

    private static void theMethods(String program) {
        String[] rows = program.split("\n");
        int begin = 0;
        for (int i = 0; i < rows.length; i++) {
            if (rows[i].matches(" {4}( {4})?[\\w\\[\\], ]+\\(.*\\{")) {
                begin = i;
            }
            if (rows[i].matches(" {4}( {4})?\\}")) {
                DUE.due("rule 11: method at row " + (begin + 1), i - begin + 1 <= 60 || rows[i].length() == 5, true);
            }
            DUE.due("a row's length, at " + (i + 1), rows[i].length() <= 120, true);
        }
    }
}
