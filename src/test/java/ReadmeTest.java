import java.lang.reflect.Field;
import java.lang.reflect.InvocationTargetException;
import java.lang.reflect.Method;
import java.lang.reflect.Modifier;
import java.lang.reflect.Parameter;
import java.nio.file.Files;
import java.nio.file.Path;
import java.util.ArrayList;
import java.util.List;
import java.util.regex.Matcher;
import java.util.regex.Pattern;

/** README.md: its example answers as its comments say, and it names the whole face. */
public final class ReadmeTest {
    private static final Check CHECK = new Check("ReadmeTest");
    private static final String NEW_HOUSE = "ScoreHouse house = new ScoreHouse();";
    private static final Pattern CALL = Pattern.compile("house\\.(\\w+)\\((.*)\\); +// ([-\\w]+): .+");

    public static void main(String[] args) throws Exception {
        String text = Files.readString(Path.of("README.md"));
        int from = text.indexOf("```java\n") + 8;
        playExample(text.substring(from, text.indexOf("```", from)));
        namesTheFace(text);
        CHECK.yes("the calls of an object are told", text.contains("512 calls"));
        CHECK.end();
    }

    private static void playExample(String example) throws Exception {
        CHECK.yes("an object is made first", example.startsWith(NEW_HOUSE + "\n"));
        ScoreHouse house = new ScoreHouse();
        int calls = 0;
        for (String line : example.substring(NEW_HOUSE.length()).split("\n")) {
            Matcher call = CALL.matcher(line);
            if (call.matches()) {
                calls++;
                String got = answer(house, call.group(1), call.group(2).split(", "));
                CHECK.yes(line + " (" + got + ")", got.equals(call.group(3)));
            } else {
                CHECK.yes("a call with its answer: " + line, line.isEmpty());
            }
        }
        CHECK.yes("there are calls", calls > 15);
    }

    private static String answer(ScoreHouse house, String name, String[] told) throws Exception {
        for (Method method : ScoreHouse.class.getMethods()) {
            if (method.getName().equals(name)) {
                Object[] given = new Object[method.getParameterCount()];
                for (int i = 0; i < given.length; i++) {
                    given[i] = argument(told[i]);
                }
                try {
                    return String.valueOf(method.invoke(house, given));
                } catch (InvocationTargetException thrown) {
                    return thrown.getCause().getClass().getSimpleName();
                }
            }
        }
        return "no such call";
    }

    private static Object argument(String told) throws Exception {
        if (told.startsWith("ScoreHouse.")) {
            return ScoreHouse.class.getField(told.substring(11)).get(null);
        }
        boolean isTruth = told.equals("true") || told.equals("false");
        return isTruth ? (Object) Boolean.valueOf(told) : (Object) Integer.valueOf(told);
    }

    private static void namesTheFace(String text) {
        for (Method method : ScoreHouse.class.getDeclaredMethods()) {
            if (Modifier.isPublic(method.getModifiers())) {
                List<String> parameters = new ArrayList<>();
                for (Parameter parameter : method.getParameters()) {
                    parameters.add(parameter.getName());
                }
                String call = method.getName() + "(" + String.join(", ", parameters) + ")";
                CHECK.yes("it names " + call, text.contains("`" + call + "`"));
            }
        }
        for (Field field : ScoreHouse.class.getFields()) {
            CHECK.yes("it names " + field.getName(), text.contains("`" + field.getName() + "`"));
        }
    }
}
