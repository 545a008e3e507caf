import java.lang.reflect.Method;
import java.nio.file.Files;
import java.nio.file.Path;
import java.util.ArrayList;
import java.util.List;
import java.util.Set;
import java.util.TreeSet;
import java.util.regex.Matcher;
import java.util.regex.Pattern;

/** What README.md says of the use of the class: its example is run, and its table is compared with the class. */
public final class ReadmeTest {
    private static final Pattern MAKE = Pattern.compile("RasterRules raster = new RasterRules\\(\\); +// all pixels 0, pen 0");
    private static final Pattern CALL = Pattern.compile("raster\\.(\\w+)\\((.*)\\); +// (\\d+|true|false|BAD)\\b.*");
    private static final Pattern ROW = Pattern.compile("\\| `(\\w+ \\w+\\(.*\\))` \\| .* \\| .* \\| (.*) \\|");
    private static final Pattern RANGE = Pattern.compile(".* outside (-?\\d+)\\.\\.(\\d+)");

    public static void main(String[] args) throws Exception {
        List<String> lines = Files.readAllLines(Path.of("README.md"));
        Check check = new Check("Readme");
        check.sentence("the example", it -> example(it, lines));
        check.sentence("The eleven calls", it -> table(it, lines));
        check.sentence("refused if: outside a range", it -> ranges(it, lines));
        check.end();
    }

    private static void example(Check check, List<String> lines) {
        int start = lines.indexOf("```java");
        check.due("it makes an object", MAKE.matcher(lines.get(start + 1)).matches(), true);
        RasterRules raster = new RasterRules();
        Set<String> called = new TreeSet<>();
        for (int i = start + 2; !lines.get(i).equals("```"); i++) {
            Matcher call = CALL.matcher(lines.get(i));
            check.due("a call with its answer: " + lines.get(i), call.matches(), true);
            if (call.matches()) {
                called.add(call.group(1));
                check.due(lines.get(i), answer(raster, call.group(1), call.group(2)), number(call.group(3)));
            }
        }
        check.due("every call is in it: " + called, called.size(), 11);
    }

    private static int number(String answer) {
        return answer.equals("BAD") ? RasterRules.BAD : answer.equals("true") ? 1 : answer.equals("false") ? 0 : Integer.parseInt(answer);
    }

    private static int answer(RasterRules raster, String name, String arguments) {
        List<Object> numbers = new ArrayList<>();
        for (String argument : arguments.isEmpty() ? new String[0] : arguments.split(",")) {
            numbers.add(sum(argument));
        }
        try {
            Object answer = method(name).invoke(raster, numbers.toArray());
            return answer instanceof Boolean ? (Boolean) answer ? 1 : 0 : (Integer) answer;
        } catch (ReflectiveOperationException e) {
            throw new IllegalStateException(e);
        }
    }

    private static int sum(String text) {
        int sum = 0;
        for (String part : text.split("\\+")) {
            int product = 1;
            for (String factor : part.split("\\*")) {
                product *= Integer.parseInt(factor.trim());
            }
            sum += product;
        }
        return sum;
    }

    private static Method method(String name) {
        for (Method method : RasterRules.class.getMethods()) {
            if (method.getName().equals(name) && method.getDeclaringClass() == RasterRules.class) {
                return method;
            }
        }
        throw new IllegalStateException("no method " + name);
    }

    private static void table(Check check, List<String> lines) {
        Set<String> names = new TreeSet<>();
        for (Matcher row : rows(lines)) {
            String[] words = row.group(1).split("[ (]", 3);
            names.add(words[1]);
            int parameters = words[2].equals(")") ? 0 : words[2].split(",").length;
            check.due("answer of " + row.group(1), method(words[1]).getReturnType().toString().equals(words[0]), true);
            check.due("parameters of " + row.group(1), method(words[1]).getParameterCount(), parameters);
            check.due("refused: " + row.group(1), row.group(2).equals("never"), parameters == 0);
        }
        check.due("all eleven: " + names, names.size(), 11);
        check.due("rows", rows(lines).size(), 11);
    }

    /** The ends of each range are taken, the numbers beyond them are refused; the range is that of the last parameter. */
    private static void ranges(Check check, List<String> lines) {
        for (Matcher row : rows(lines)) {
            Matcher range = RANGE.matcher(row.group(2));
            if (range.matches()) {
                Method method = method(row.group(1).split("[ (]", 3)[1]);
                String before = "0,".repeat(method.getParameterCount() - 1);
                int low = Integer.parseInt(range.group(1));
                int high = Integer.parseInt(range.group(2));
                int refusal = method.getReturnType() == boolean.class ? 0 : RasterRules.BAD;
                check.due(row.group() + ", low", taken(method, before + low, refusal), true);
                check.due(row.group() + ", high", taken(method, before + high, refusal), true);
                check.due(row.group() + ", below", taken(method, before + (low - 1), refusal), false);
                check.due(row.group() + ", above", taken(method, before + (high + 1), refusal), false);
            }
        }
    }

    private static boolean taken(Method method, String arguments, int refusal) {
        return answer(new RasterRules(), method.getName(), arguments) != refusal;
    }

    private static List<Matcher> rows(List<String> lines) {
        List<Matcher> rows = new ArrayList<>();
        for (String line : lines) {
            Matcher row = ROW.matcher(line);
            if (row.matches()) {
                rows.add(row);
            }
        }
        return rows;
    }
}
