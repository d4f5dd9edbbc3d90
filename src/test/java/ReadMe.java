import java.lang.reflect.Method;
import java.lang.reflect.Modifier;
import java.nio.file.Files;
import java.nio.file.Path;
import java.util.regex.Matcher;
import java.util.regex.Pattern;

/**
 * README.md shows how the class is used: the first of its blocks of Java is a method, the others are calls, with the
 * answer behind each. Makes a program, Shown, of them, which .ci/run compiles and runs.
 */
public final class ReadMe {
    private static final Pattern BLOCK = Pattern.compile("(?s)```java\n(.*?)```");
    private static final Pattern ANSWER = Pattern.compile("(?m)^(o\\.[a-z]+\\(.*\\)); +// (-?[0-9]+)(:.*)?$");
    private static final Pattern CALL = Pattern.compile("(?m)^o\\.");

    /** Arguments: README.md, the file to write. */
    public static void main(String[] args) throws Exception {
        String text = Files.readString(Path.of(args[0]));
        boolean whole = namesAllCalls(text);
        Matcher blocks = BLOCK.matcher(text);
        if (!blocks.find()) throw new IllegalStateException("no Java in " + args[0]);
        String helper = blocks.group(1);
        StringBuilder calls = new StringBuilder();
        while (blocks.find()) calls.append(blocks.group(1));
        int answers = (int) ANSWER.matcher(calls).results().count();
        int all = (int) CALL.matcher(calls).results().count();
        if (answers == 0 || answers != all) {
            System.out.println(all + " calls, but " + answers + " answers");
            whole = false;
        }
        String body = ANSWER.matcher(calls).replaceAll(m -> Matcher.quoteReplacement(
            "due(\"" + m.group(1) + "\", " + m.group(1) + ", " + m.group(2) + ");"));
        Files.writeString(Path.of(args[1]), program(helper, body, answers));
        if (!whole) System.exit(1);
    }

    private static boolean namesAllCalls(String text) {
        boolean all = true;
        for (Method m : OneAnvil.class.getDeclaredMethods()) {
            String named = "`" + m.getName() + "\\(" + "[a-z]+, ".repeat(Math.max(0, m.getParameterCount() - 1))
                + (m.getParameterCount() > 0 ? "[a-z]+" : "") + "\\)`";
            if (Modifier.isPublic(m.getModifiers()) && !Pattern.compile(named).matcher(text).find()) {
                System.out.println("not named: " + m.getName());
                all = false;
            }
        }
        return all;
    }

    private static String program(String helper, String body, int answers) {
        return "public final class Shown {\n"
            + "static int wrong = 0;\n"
            + "static void due(String call, int got, int want) {\n"
            + "if (got == want) return;\n"
            + "wrong++;\n"
            + "System.out.println(call + \" answers \" + got + \", README.md says \" + want);\n"
            + "}\n"
            + helper
            + "public static void main(String[] args) {\n"
            + body
            + "System.out.println(wrong + \" of " + answers + " answers in README.md are not as told\");\n"
            + "if (wrong != 0) System.exit(1);\n"
            + "}\n"
            + "}\n";
    }
}
