import java.nio.file.Files;
import java.nio.file.Path;
import java.util.regex.Matcher;
import java.util.regex.Pattern;

/** Looks at the source for what LANGUAGE.md rules out and a pattern can find. */
public final class LanguageTest {
    private static final String[] RULED_OUT = {"\\bthrow\\b", "\\btry\\b", "\\bcatch\\b", "\\bsynchronized\\b",
        "\\bassert\\b", "\\bimport\\b", "\\bpackage\\b", "->", "::", "@", "\\bequals\\s*\\(", "\\bhashCode\\b",
        "\\bSystem\\.(?!arraycopy)", "\\bprotected\\b", "\\bObject\\b", "\"\\s*\\+", "\\+\\s*\"",
        "\\bfloat\\b", "\\bdouble\\b", "\\w+Exact\\b",
        "\\bstatic (?!final)(?!\\w+(\\[\\])* \\w+\\()", "while \\(true\\)"};
    private static final int LONGEST_METHOD = 60;
    private static final int MOST_PARAMETERS = 7;
    private static final int MOST_CLASSES = 12;

    private static int wrong = 0;

    private static void fault(String what) {
        wrong++;
        System.out.println("language: " + what);
    }

    private static String withoutComments(String source) {
        return source.replaceAll("(?s)/\\*.*?\\*/", "").replaceAll("//[^\n]*", "");
    }

    private static void lookForWords(String source) {
        for (String ruledOut : RULED_OUT) {
            Matcher m = Pattern.compile(ruledOut).matcher(source);
            if (m.find()) {
                int end = source.indexOf('\n', m.end());
                fault(ruledOut + " stands there: " + source.substring(m.start(), end));
            }
        }
        int classes = source.split("\\bclass\\b").length - 1;
        if (classes > MOST_CLASSES) {
            fault(classes + " classes");
        }
    }

    /** A row for each method: the lines from its head to the brace that stands as far in as the head. */
    private static void measureMethods(String source) {
        Pattern head = Pattern.compile("(?m)^( +)[\\w\\[\\] ]*?(\\w+)\\(([^()]*)\\) \\{$");
        Matcher m = head.matcher(source);
        while (m.find()) {
            String name = m.group(2);
            int end = source.indexOf("\n" + m.group(1) + "}\n", m.start());
            int lines = source.substring(m.start(), end).split("\n").length + 1;
            int parameters = m.group(3).isEmpty() ? 0 : m.group(3).split(",").length;
            if (lines > LONGEST_METHOD || parameters > MOST_PARAMETERS) {
                fault(name + " has " + lines + " lines and " + parameters + " parameters");
            }
        }
    }

    /** Each while loop counts the name that its head compares first, so that its end is seen from its own lines. */
    private static void lookAtLoops(String source) {
        Matcher m = Pattern.compile("(?m)^( +)while \\((\\w+)\\b.*\\{$").matcher(source);
        int heads = 0;
        while (m.find()) {
            heads++;
            String body = source.substring(m.end(), source.indexOf("\n" + m.group(1) + "}\n", m.end()));
            String name = m.group(2);
            String step = name + "(\\+\\+|--);|" + name + " = Math\\.max\\(\\w+, " + name + " \\+ 1\\);";
            if (!Pattern.compile("\\b(" + step + ")").matcher(body).find()) {
                fault("no step of " + name + " is seen in the loop " + m.group().trim());
            }
        }
        int all = source.split("\\bwhile\\b").length - 1;
        if (heads != all) {
            fault(all + " loops by while, of which " + heads + " start with a name");
        }
    }

    public static void main(String[] args) throws Exception {
        String source = Files.readString(Path.of(args.length > 0 ? args[0] : "src/main/java", "ThroneSale.java"));
        lookForWords(withoutComments(source));
        measureMethods(withoutComments(source));
        lookAtLoops(withoutComments(source));
        System.out.println(wrong == 0 ? "the language is kept" : wrong + " faults");
        if (wrong != 0) {
            System.exit(1);
        }
    }
}
