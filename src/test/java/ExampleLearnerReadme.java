import java.lang.reflect.Constructor;
import java.lang.reflect.Field;
import java.lang.reflect.Method;
import java.lang.reflect.Modifier;
import java.nio.file.Files;
import java.nio.file.Path;
import java.util.List;
import java.util.Map;
import java.util.Set;
import java.util.TreeMap;
import java.util.TreeSet;
import java.util.regex.Matcher;
import java.util.regex.Pattern;

/**
 * README.md agrees with the class: its Java lines are run as they stand, each answered as the comment
 * behind it begins, and its tables name each constant with its value and each call, and no others.
 */
public final class ExampleLearnerReadme {
    private static final Pattern NEW_OBJECT = Pattern.compile("(ExampleLearner )?x = new ExampleLearner\\(\\);");
    private static final Pattern CALL = Pattern.compile("x\\.(\\w+)\\((-?\\d*)\\);\\s*");
    private static final Pattern ROW = Pattern.compile("\\| `([^`]+)` \\| ([^|]*) \\|.*");
    private static final Pattern FACE = Pattern.compile("((?:\\w+ )?\\w+)\\((?:(\\w+) \\w+)?\\)");

    private static int wrong = 0;

    private final Map<String, Integer> constants = new TreeMap<>();
    private final Set<String> calls = new TreeSet<>();
    private final Set<String> names = new TreeSet<>();
    private final Set<String> shown = new TreeSet<>();
    private ExampleLearner x;

    public static void main(String[] args) throws Exception {
        List<String> lines = Files.readAllLines(Path.of("README.md"));
        ExampleLearnerReadme readme = new ExampleLearnerReadme();
        readme.lookAtClass();
        readme.lookAtTables(lines);
        readme.runExamples(lines);
        System.out.println(wrong == 0 ? "README.md is as the class answers" : wrong + " places of README.md are wrong");
        if (wrong != 0) {
            System.exit(1);
        }
    }

    private static void due(String what, Object got, Object want) {
        if (!got.equals(want)) {
            wrong++;
            System.out.println("README.md, " + what + ": the class has " + got + ", README.md says " + want);
        }
    }

    private void lookAtClass() throws Exception {
        for (Field field : ExampleLearner.class.getFields()) {
            constants.put(field.getName(), field.getInt(null));
        }
        for (Method method : ExampleLearner.class.getDeclaredMethods()) {
            if (Modifier.isPublic(method.getModifiers())) {
                calls.add(method.getReturnType() + " " + method.getName() + parameter(method.getParameterTypes()));
                names.add(method.getName());
            }
        }
        for (Constructor<?> constructor : ExampleLearner.class.getConstructors()) {
            calls.add(constructor.getName() + parameter(constructor.getParameterTypes()));
        }
    }

    private static String parameter(Class<?>[] types) {
        return "(" + (types.length == 0 ? "" : types[0]) + ")";
    }

    private void lookAtTables(List<String> lines) {
        Map<String, Integer> saidConstants = new TreeMap<>();
        Set<String> saidCalls = new TreeSet<>();
        for (String line : lines) {
            Matcher row = ROW.matcher(line);
            if (!row.matches()) {
                continue;
            }
            Matcher face = FACE.matcher(row.group(1));
            if (face.matches()) {
                saidCalls.add(face.group(1) + "(" + (face.group(2) == null ? "" : face.group(2)) + ")");
            } else {
                saidConstants.put(row.group(1), Integer.parseInt(row.group(2)));
            }
        }
        due("the constants", constants, saidConstants);
        due("the calls", calls, saidCalls);
    }

    private void runExamples(List<String> lines) throws Exception {
        boolean inside = false;
        for (String line : lines) {
            if (line.startsWith("```")) {
                inside = line.equals("```java");
            } else if (inside) {
                runLine(line);
            }
        }
        due("the calls that its examples show", names, shown);
    }

    private void runLine(String line) throws Exception {
        String[] codeAndComment = line.split("//", 2);
        String code = codeAndComment[0].trim();
        if (NEW_OBJECT.matcher(code).matches()) {
            x = new ExampleLearner();
            return;
        }
        Matcher call = CALL.matcher(code);
        String last = "";
        int end = 0;
        while (call.find() && call.start() == end) {
            last = answer(call.group(1), call.group(2));
            end = call.end();
        }
        if (end == 0 || end != code.length()) {
            wrong++;
            System.out.println("README.md, a line that is not all calls: " + line);
        } else if (!last.isEmpty()) {
            due(line, last, codeAndComment.length == 1 ? "no answer" : said(codeAndComment[1]));
        }
    }

    /** What the call answers, as words; nothing for a call without an answer. */
    private String answer(String name, String number) throws Exception {
        shown.add(name);
        Object answer = number.isEmpty()
                ? ExampleLearner.class.getMethod(name).invoke(x)
                : ExampleLearner.class.getMethod(name, int.class).invoke(x, Integer.parseInt(number));
        return answer == null ? "" : answer.toString();
    }

    /** A comment begins with the answer, a constant by its name, and goes on behind a colon. */
    private String said(String comment) {
        String word = comment.split(":", 2)[0].trim();
        return constants.containsKey(word) ? constants.get(word).toString() : word;
    }
}
