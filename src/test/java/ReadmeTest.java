import java.io.IOException;
import java.lang.reflect.InvocationTargetException;
import java.lang.reflect.Method;
import java.lang.reflect.Modifier;
import java.nio.file.Files;
import java.nio.file.Path;
import java.util.List;
import java.util.Set;
import java.util.TreeSet;
import java.util.regex.Matcher;
import java.util.regex.Pattern;

/** What README.md shows is so: each line of its Java is run, and answers what is told behind it; each call of the face is shown. */
public final class ReadmeTest {
    private static final Check CHECK = new Check("ReadmeTest");
    private static final Pattern MADE = Pattern.compile("CallSteps x = new CallSteps\\(\\);");
    private static final Pattern TOLD = Pattern.compile("tell\\(x, \"([^\"]*)\"\\);( *//.*)?");
    private static final Pattern CALLED = Pattern.compile("x\\.(\\w+)\\(([^)]*)\\); *// (throws \\w+|\\S+?)(:.*)?");

    private static final Set<String> SHOWN = new TreeSet<>();
    private static CallSteps x = null;

    public static void main(String[] args) throws IOException {
        List<String> lines = Files.readAllLines(Path.of("README.md"));
        StringBuilder helper = new StringBuilder();
        boolean inJava = false;
        boolean inHelper = false;
        for (String line : lines) {
            if (line.startsWith("```")) {
                inJava = line.equals("```java");
                inHelper = false;
            } else if (inJava) {
                inHelper |= line.startsWith("static ");
                if (inHelper) {
                    helper.append("    ").append(line).append('\n');
                } else {
                    runLine(line);
                }
            }
        }
        String check = Files.readString(Path.of("src/test/java/Check.java"));
        CHECK.due("the function shown is the one that is run", helper.length() > 0 && check.contains(helper), true);
        showsTheFace();
        String readme = String.join("\n", lines);
        CHECK.due("how to run the tests", readme.contains("bash .ci/run"), true);
        CHECK.due("fences", readme.split("```", -1).length % 2, 1);
        CHECK.close();
    }

    private static void showsTheFace() {
        for (Method method : CallSteps.class.getDeclaredMethods()) {
            if (Modifier.isPublic(method.getModifiers())) {
                CHECK.due("shows " + method.getName(), SHOWN.contains(method.getName()), true);
            }
        }
    }

    private static void runLine(String line) {
        Matcher told = TOLD.matcher(line);
        Matcher called = CALLED.matcher(line);
        if (MADE.matcher(line).matches()) {
            x = new CallSteps();
        } else if (told.matches()) {
            Check.tell(x, told.group(1));
        } else if (called.matches()) {
            SHOWN.add(called.group(1));
            String answer = answerOf(called.group(1), called.group(2));
            CHECK.due(line + " (answered " + answer + ")", answer.equals(called.group(3)), true);
        } else {
            CHECK.due("a line that can be run: " + line, false, true);
        }
    }

    private static String answerOf(String name, String told) {
        String[] words = told.isEmpty() ? new String[0] : told.split(", ");
        for (Method method : CallSteps.class.getDeclaredMethods()) {
            boolean isPublic = Modifier.isPublic(method.getModifiers());
            if (isPublic && method.getName().equals(name) && method.getParameterCount() == words.length) {
                return answerOf(method, words);
            }
        }
        return "no such call";
    }

    private static String answerOf(Method method, String[] words) {
        Object[] given = new Object[words.length];
        for (int i = 0; i < words.length; i++) {
            boolean isTruth = method.getParameterTypes()[i] == boolean.class;
            given[i] = isTruth ? (Object) Boolean.valueOf(words[i]) : (Object) Integer.decode(words[i]);
        }
        try {
            return String.valueOf(method.invoke(x, given));
        } catch (InvocationTargetException thrown) {
            return "throws " + thrown.getCause().getClass().getSimpleName();
        } catch (IllegalAccessException never) {
            return "not to be called";
        }
    }
}
