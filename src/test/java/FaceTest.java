import java.lang.reflect.Constructor;
import java.lang.reflect.Field;
import java.lang.reflect.Method;
import java.lang.reflect.Modifier;
import java.lang.reflect.Parameter;
import java.nio.file.Files;
import java.nio.file.Path;
import java.util.ArrayList;
import java.util.HashSet;
import java.util.List;
import java.util.Set;
import java.util.TreeSet;

/** The face that the document tells, and those rules of LANGUAGE.md that can be seen from outside. */
public final class FaceTest {
    private static final Check CHECK = new Check("FaceTest");

    public static void main(String[] args) throws Exception {
        sameFace();
        constants();
        keepsToTheRulesOfClasses();
        keepsToTheRulesOfText();
        CHECK.end();
    }

    private static void sameFace() throws Exception {
        Set<String> due = new TreeSet<>(dueMembers());
        Set<String> got = new TreeSet<>(membersThere());
        for (String member : due) {
            CHECK.yes("there is " + member, got.contains(member));
        }
        for (String member : got) {
            CHECK.yes("the document has " + member, due.contains(member));
        }
        CHECK.yes("the face is not empty", due.size() > 60);
    }

    private static List<String> dueMembers() throws Exception {
        String text = Files.readString(Path.of("../shared/DOC.md"));
        int from = text.indexOf("public final class ScoreHouse {");
        int to = text.indexOf("\n}", from);
        List<String> due = new ArrayList<>();
        for (String line : text.substring(text.indexOf('\n', from), to).split("\n")) {
            String told = line.strip();
            if (told.startsWith("public static final int ")) {
                for (String constant : told.substring(24, told.length() - 1).split(", ")) {
                    due.add("constant " + constant);
                }
            } else if (!told.isEmpty()) {
                due.add(told.substring(0, told.length() - 1));
            }
        }
        return due;
    }

    private static List<String> membersThere() throws Exception {
        List<String> there = new ArrayList<>();
        for (Field field : ScoreHouse.class.getDeclaredFields()) {
            if (!Modifier.isPrivate(field.getModifiers())) {
                there.add("constant " + field.getName() + " = " + field.get(null));
            }
        }
        for (Constructor<?> constructor : ScoreHouse.class.getDeclaredConstructors()) {
            there.add(Modifier.toString(constructor.getModifiers()) + " ScoreHouse("
                    + parameters(constructor.getParameters()) + ")");
        }
        for (Method method : ScoreHouse.class.getDeclaredMethods()) {
            if (!Modifier.isPrivate(method.getModifiers()) && !method.isSynthetic()) {
                there.add(Modifier.toString(method.getModifiers()) + " " + method.getReturnType() + " "
                        + method.getName() + "(" + parameters(method.getParameters()) + ")" + thrown(method));
            }
        }
        return there;
    }

    private static String parameters(Parameter[] parameters) {
        List<String> told = new ArrayList<>();
        for (Parameter parameter : parameters) {
            told.add(parameter.getType() + " " + parameter.getName());
        }
        return String.join(", ", told);
    }

    private static String thrown(Method method) {
        List<String> told = new ArrayList<>();
        for (Class<?> type : method.getExceptionTypes()) {
            told.add(type.getSimpleName());
        }
        return told.isEmpty() ? "" : " throws " + String.join(", ", told);
    }

    private static void constants() {
        CHECK.same("NONE", ScoreHouse.NONE, -1);
        CHECK.same("PLAIN", ScoreHouse.PLAIN, 0);
        CHECK.same("DOTTED", ScoreHouse.DOTTED, 1);
        CHECK.same("TRIPLET", ScoreHouse.TRIPLET, 2);
        CHECK.same("BAR", ScoreHouse.BAR, 0);
        CHECK.same("REST", ScoreHouse.REST, 1);
        CHECK.same("CUE", ScoreHouse.CUE, 2);
        CHECK.yes("the class is public and final",
                ScoreHouse.class.getModifiers() == (Modifier.PUBLIC | Modifier.FINAL));
    }

    private static void keepsToTheRulesOfClasses() {
        List<Class<?>> classes = new ArrayList<>(List.of(ScoreHouse.class.getDeclaredClasses()));
        classes.add(ScoreHouse.class);
        CHECK.yes("some twelve classes", classes.size() <= 13);
        Set<String> face = new HashSet<>();
        for (Method method : ScoreHouse.class.getDeclaredMethods()) {
            if (Modifier.isPublic(method.getModifiers())) {
                face.add(method.getName());
            }
        }
        for (Class<?> type : classes) {
            int fields = 0;
            for (Field field : type.getDeclaredFields()) {
                boolean isStatic = Modifier.isStatic(field.getModifiers());
                fields += isStatic ? 0 : 1;
                CHECK.yes(field + " is final if it is static", !isStatic || Modifier.isFinal(field.getModifiers()));
            }
            CHECK.yes(type + " has some twenty fields", fields <= 20);
            for (Method method : type.getDeclaredMethods()) {
                boolean isFace = type == ScoreHouse.class && Modifier.isPublic(method.getModifiers());
                CHECK.yes(method + " bears no name of the face", isFace || !face.contains(method.getName()));
                CHECK.yes(method + " takes seven parameters", method.getParameterCount() <= 7);
            }
            if (type != ScoreHouse.class) {
                CHECK.yes(type + " is static and not public", Modifier.isStatic(type.getModifiers())
                        && !Modifier.isPublic(type.getModifiers()) && !Modifier.isProtected(type.getModifiers()));
            }
        }
    }

    private static void keepsToTheRulesOfText() throws Exception {
        String text = Files.readString(Path.of("src/main/java/ScoreHouse.java"));
        for (int at = 0; at < text.length(); at++) {
            CHECK.yes("a sign of 1 to 127 at " + at, text.charAt(at) >= 1 && text.charAt(at) <= 127);
        }
        String[] refused = {"->", "::", "synchronized", "finally", "catch", "assert ", "instanceof", "System.",
                "Exact(", "String ", "package ", ".equals(", "hashCode", "toString", "getClass", "static {",
                "Object ", "float ", "double ", "import java.io", "Random", "Thread", "protected "};
        for (String word : refused) {
            CHECK.no("the class needs no '" + word + "'", text.contains(word));
        }
        int from = -1;
        String[] lines = text.split("\n");
        for (int line = 0; line < lines.length; line++) {
            CHECK.yes("import of line " + (line + 1),
                    !lines[line].startsWith("import ") || lines[line].equals("import java.util.ArrayList;"));
            if (lines[line].matches(" {4}( {4})?[^ @/*].*\\) ?(throws .*)?\\{")) {
                from = line;
            } else if (lines[line].matches(" {4}( {4})?\\}") && from >= 0) {
                CHECK.yes("method of line " + (from + 1) + " is short", line - from <= 60);
                from = -1;
            }
        }
    }
}
