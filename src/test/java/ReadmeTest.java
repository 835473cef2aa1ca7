import java.io.IOException;
import java.lang.reflect.InvocationTargetException;
import java.lang.reflect.Method;
import java.nio.file.Files;
import java.nio.file.Path;
import java.util.ArrayList;
import java.util.List;
import java.util.Set;
import java.util.TreeSet;
import java.util.regex.Matcher;
import java.util.regex.Pattern;

/** The calls that README.md shows answer what stands behind them there. */
public final class ReadmeTest {
    private static final String MAKING = "MirageSurvey survey = new MirageSurvey();";
    private static final Pattern CALL = Pattern.compile("survey\\.(\\w+)\\(([^)]*)\\);\\s+// (?:throws )?([^\\s:]+).*");
    private static final Set<String> SHOWN = Set.of(
        "0", "'-'", "0.0", "UnsupportedOperationException", "IllegalArgumentException", "NoSuchElementException");

    private static MirageSurvey survey = null;

    public static void main(String[] args) throws IOException, ReflectiveOperationException {
        Set<String> seen = new TreeSet<>();
        boolean isJava = false;
        for (String line : Files.readAllLines(Path.of("README.md"))) {
            if (line.startsWith("```")) {
                isJava = line.equals("```java");
            } else if (isJava && line.equals(MAKING)) {
                survey = new MirageSurvey();
            } else if (isJava) {
                seen.add(compare(line));
            }
        }
        Check.is("README.md shows numbers, characters and exceptions", seen.containsAll(SHOWN), true);
        Check.end();
    }

    private static String compare(String line) throws ReflectiveOperationException {
        Matcher call = CALL.matcher(line);
        boolean isCall = call.matches();
        Check.is("a call with its answer: " + line, isCall && survey != null, true);
        if (!isCall || survey == null) {
            return "";
        }
        Check.is(line, answer(call.group(1), call.group(2)), call.group(3));
        return call.group(3);
    }

    private static String answer(String name, String texts) throws ReflectiveOperationException {
        Object[] values = values(texts);
        for (Method method : MirageSurvey.class.getMethods()) {
            if (method.getName().equals(name) && method.getParameterCount() == values.length) {
                try {
                    Object answer = method.invoke(survey, values);
                    return answer instanceof Character ? "'" + answer + "'" : answer.toString();
                } catch (InvocationTargetException thrown) {
                    return thrown.getCause().getClass().getSimpleName();
                }
            }
        }
        return "no such call";
    }

    private static Object[] values(String texts) {
        List<Object> values = new ArrayList<>();
        for (String text : texts.isEmpty() ? new String[0] : texts.split(", ")) {
            if (text.startsWith("'")) {
                values.add(text.charAt(1));
            } else {
                values.add(Integer.valueOf(text));
            }
        }
        return values.toArray();
    }
}
