import java.lang.reflect.Method;
import java.nio.file.Files;
import java.nio.file.Path;
import java.util.HashSet;
import java.util.Set;
import java.util.regex.Matcher;
import java.util.regex.Pattern;

/** The README's example answers as it says, and its table names every method. */
public final class ReadmeTest {
    private static final Pattern MADE = Pattern.compile("ThroneSale x = new ThroneSale\\(\\);");
    private static final Pattern CALL = Pattern.compile("x\\.(\\w+)\\(([^()]*)\\);(?: +// (-?\\d+)(?:: .*)?)?");

    private static int wrong = 0;

    private static void fault(String what) {
        wrong++;
        System.out.println("README.md: " + what);
    }

    private static Method method(String name) {
        for (Method method : ThroneSale.class.getDeclaredMethods()) {
            if (method.getName().equals(name)) {
                return method;
            }
        }
        return null;
    }

    private static int answer(ThroneSale x, String name, String told) throws Exception {
        String[] numbers = told.isEmpty() ? new String[0] : told.split(", ");
        Object[] arguments = new Object[numbers.length];
        for (int i = 0; i < numbers.length; i++) {
            arguments[i] = numbers[i].equals("ThroneSale.NONE") ? ThroneSale.NONE : (int) (long) Long.decode(numbers[i]);
        }
        return (Integer) method(name).invoke(x, arguments);
    }

    private static int runExample(String code) throws Exception {
        ThroneSale x = null;
        int answers = 0;
        for (String line : code.split("\n")) {
            Matcher call = CALL.matcher(line);
            if (MADE.matcher(line).matches()) {
                x = new ThroneSale();
            } else if (call.matches() && x != null && method(call.group(1)) != null) {
                int got = answer(x, call.group(1), call.group(2));
                if (call.group(3) != null) {
                    answers++;
                    if (got != Integer.parseInt(call.group(3))) {
                        fault(line + " answered " + got);
                    }
                }
            } else if (!line.isBlank() && !line.startsWith("//")) {
                fault("this line can't be tried: " + line);
            }
        }
        return answers;
    }

    private static void lookForMethods(String readme) {
        Set<String> named = new HashSet<>();
        Matcher m = Pattern.compile("`(\\w+)\\(").matcher(readme);
        while (m.find()) {
            named.add(m.group(1));
        }
        for (Method method : ThroneSale.class.getMethods()) {
            if (method.getDeclaringClass() == ThroneSale.class && !named.contains(method.getName())) {
                fault("it doesn't name " + method.getName());
            }
        }
    }

    public static void main(String[] args) throws Exception {
        String readme = Files.readString(Path.of("README.md"));
        int from = readme.indexOf("```java\n") + 8;
        int answers = runExample(readme.substring(from, readme.indexOf("```", from)));
        if (answers < 10) {
            fault("only " + answers + " answers are told");
        }
        lookForMethods(readme);
        System.out.println(wrong == 0 ? answers + " answers of README.md are as it says" : wrong + " faults");
        if (wrong != 0) {
            System.exit(1);
        }
    }
}
