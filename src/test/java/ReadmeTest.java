import java.io.IOException;
import java.lang.reflect.InvocationTargetException;
import java.lang.reflect.Method;
import java.nio.file.Files;
import java.nio.file.Path;
import java.util.List;
import java.util.TreeSet;
import java.util.regex.Matcher;
import java.util.regex.Pattern;
import java.util.stream.Collectors;
import java.util.stream.Stream;

/**
 * What README.md shows of the class is what the class answers: each call in its Java text is made, and
 * the comment behind it must begin with the answer. Its list of tests has each test, and no other.
 */
public final class ReadmeTest {
    private static final Pattern CALL = Pattern.compile("forms\\.(\\w+)\\(([^()]*)\\); *(?:// (.*))?");
    private static final Pattern TABLE_ROW = Pattern.compile("\\| (\\w+Test) \\|.*");
    private static final Path COMMAND = Path.of(".ci/run");

    private final Expect expect = new Expect();
    private final TreeSet<String> shown = new TreeSet<>();
    private NormalForms forms = null;

    public static void main(String[] args) throws IOException {
        ReadmeTest test = new ReadmeTest();
        List<String> lines = Files.readAllLines(Path.of("README.md"));
        test.makeCalls(textOf(lines, "```java"));
        test.showsEveryMethod();
        test.namesEveryTest(lines);
        test.namesTheCommand(textOf(lines, "```sh"));
        test.expect.end();
    }

    /** The lines that stand between a fence and the next one, for all such fences. */
    private static List<String> textOf(List<String> lines, String fence) {
        boolean[] isInside = {false};
        return lines.stream().filter(line -> {
            if (line.startsWith("```")) {
                isInside[0] = line.equals(fence);
                return false;
            }
            return isInside[0];
        }).collect(Collectors.toList());
    }

    private void makeCalls(List<String> lines) {
        for (String line : lines) {
            Matcher call = CALL.matcher(line);
            if (line.equals("NormalForms forms = new NormalForms();")) {
                forms = new NormalForms();
            } else if (call.matches()) {
                makeCall(call.group(1), call.group(2), call.group(3), line);
            } else if (!line.isEmpty() && !line.startsWith("//")) {
                expect.same("a call", line, "something else");
            }
        }
    }

    private void makeCall(String name, String arguments, String comment, String line) {
        shown.add(name);
        Method method = methodOf(name);
        boolean isAnswering = method != null && method.getReturnType() != void.class;
        String answer = method == null ? "no such method" : answerOf(method, arguments);
        boolean isThrown = answer.startsWith("throws ");
        boolean isPromisedToThrow = comment != null && comment.startsWith("throws ");
        if (isAnswering || isThrown || isPromisedToThrow) {
            expect.same(answer, line, comment == null ? "no answer" : comment.split("[:;,]")[0].trim());
        }
    }

    private static Method methodOf(String name) {
        for (Method method : NormalForms.class.getMethods()) {
            if (method.getName().equals(name) && method.getDeclaringClass() == NormalForms.class) {
                return method;
            }
        }
        return null;
    }

    private String answerOf(Method method, String written) {
        String[] words = written.isEmpty() ? new String[0] : written.split(", ");
        Object[] arguments = new Object[words.length];
        for (int i = 0; i < words.length; i++) {
            arguments[i] = valueOf(words[i]);
        }
        try {
            return String.valueOf(method.invoke(forms, arguments));
        } catch (InvocationTargetException e) {
            return "throws " + e.getCause().getClass().getSimpleName();
        } catch (IllegalAccessException | IllegalArgumentException e) {
            return "cannot be called so";
        }
    }

    private static Object valueOf(String word) {
        if (word.equals("true") || word.equals("false")) {
            return Boolean.valueOf(word);
        }
        return word.equals("NormalForms.NONE") ? Integer.valueOf(NormalForms.NONE) : Integer.valueOf(word);
    }

    private void showsEveryMethod() {
        TreeSet<String> due = new TreeSet<>();
        for (Method method : NormalForms.class.getDeclaredMethods()) {
            if (java.lang.reflect.Modifier.isPublic(method.getModifiers())) {
                due.add(method.getName());
            }
        }
        expect.same(due.toString(), "the methods that README.md shows", shown.toString());
    }

    private void namesEveryTest(List<String> lines) throws IOException {
        TreeSet<String> named = new TreeSet<>();
        for (String line : lines) {
            Matcher row = TABLE_ROW.matcher(line);
            if (row.matches()) {
                named.add(row.group(1));
            }
        }
        TreeSet<String> due = new TreeSet<>();
        try (Stream<Path> files = Files.list(Path.of("src/test/java"))) {
            files.map(file -> file.getFileName().toString()).filter(name -> name.endsWith("Test.java"))
                .forEach(name -> due.add(name.replace(".java", "")));
        }
        expect.same(due.toString(), "the tests that README.md names", named.toString());
    }

    private void namesTheCommand(List<String> lines) {
        expect.same("[" + COMMAND + "]", "how README.md says that the tests are run", lines.toString());
        expect.same("true", COMMAND + " can be run", "" + Files.isExecutable(COMMAND));
    }
}
