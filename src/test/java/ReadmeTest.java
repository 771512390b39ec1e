import java.io.IOException;
import java.lang.reflect.Method;
import java.lang.reflect.Modifier;
import java.lang.reflect.Parameter;
import java.nio.file.Files;
import java.nio.file.Path;
import java.util.ArrayList;
import java.util.List;
import java.util.Set;
import java.util.TreeSet;
import java.util.regex.Matcher;
import java.util.regex.Pattern;

/** README.md tells of each call of the face, and the calls of its example answer what stands behind them. */
public final class ReadmeTest {
    private static final Pattern ROW = Pattern.compile("(?m)^\\| `(\\w+ \\w+\\([\\w, ]*\\))` \\| [^|]+ \\| [^|]+ \\|$");
    private static final Pattern CALL = Pattern.compile("trees\\.(\\w+)\\(([-\\d, ]*)\\);\\s+// (throws \\w+|[-\\w]+)");

    public static void main(String[] args) throws IOException {
        String page = Files.readString(Path.of("README.md"));
        List<String> wrong = new ArrayList<>();
        Set<String> calls = new TreeSet<>();
        Set<String> names = new TreeSet<>();
        for (Method method : TurningTrees.class.getDeclaredMethods()) {
            if (Modifier.isPublic(method.getModifiers())) {
                calls.add(written(method));
                names.add(method.getName());
            }
        }
        eachCallIsTold(page, calls, wrong);
        exampleAnswers(page, names, wrong);
        wrong.forEach(System.out::println);
        System.out.println(wrong.isEmpty() ? "the page is as the class is" : wrong.size() + " faults of the page");
        if (!wrong.isEmpty()) {
            System.exit(1);
        }
    }

    private static void eachCallIsTold(String page, Set<String> calls, List<String> wrong) {
        Set<String> told = new TreeSet<>();
        Matcher row = ROW.matcher(page);
        while (row.find()) {
            told.add(row.group(1).replaceAll("(\\w+) \\w+([,)])", "$1$2"));
        }
        if (!told.equals(calls)) {
            wrong.add("the calls are " + calls + ", the page tells of " + told);
        }
    }

    private static String written(Method method) {
        List<String> types = new ArrayList<>();
        for (Parameter parameter : method.getParameters()) {
            types.add(parameter.getType().getName());
        }
        return method.getReturnType().getName() + " " + method.getName() + "(" + String.join(", ", types) + ")";
    }

    private static void exampleAnswers(String page, Set<String> names, List<String> wrong) {
        Run run = new Run(wrong);
        Set<String> used = new TreeSet<>();
        int calls = 0;
        Matcher call = CALL.matcher(page);
        while (call.find()) {
            String want = call.group(3);
            String written = call.group(1) + " " + call.group(2).replace(",", "");
            run.expect(written, run.answer(written), want);
            used.add(call.group(1));
            calls++;
        }
        int lines = page.split("\ntrees\\.", -1).length - 1;
        if (calls != lines || !used.equals(names)) {
            wrong.add("the example's " + lines + " lines have " + calls + " answers, of " + used);
        }
    }
}
