import java.lang.reflect.Constructor;
import java.lang.reflect.Field;
import java.lang.reflect.Method;
import java.lang.reflect.Modifier;
import java.nio.file.Files;
import java.nio.file.Path;
import java.util.ArrayList;
import java.util.List;
import java.util.Set;
import java.util.TreeSet;
import java.util.regex.Matcher;
import java.util.regex.Pattern;

/** The public face, and what a look at the text can tell of the rules in ../shared/LANGUAGE.md. */
public final class Face {
    private static final List<String> DUE = List.of("feed5", "end1", "smithy0", "rule0", "force1", "smith2", "job2",
        "worn1", "moment0", "quench1", "mend1", "aside1", "undo0", "ahead3", "ready1", "all0", "rota2", "round1",
        "beside1", "worth2", "splits2", "order2", "note3", "ruled1", "look2", "second0", "seed1", "days4", "count1",
        "image1", "back1");
    private static int failed = 0;

    public static void main(String[] args) throws Exception {
        face();
        text(Files.readString(Path.of(args[0])));
        System.out.println(failed == 0 ? "the face and the text are as due" : failed + " things are not as due");
        if (failed != 0) System.exit(1);
    }

    private static void hold(String what, boolean holds) {
        if (!holds) {
            failed++;
            System.out.println("not so: " + what);
        }
    }

    private static void face() {
        Class<?> c = OneAnvil.class;
        hold("public and final", Modifier.isPublic(c.getModifiers()) && Modifier.isFinal(c.getModifiers()));
        Set<String> found = new TreeSet<>();
        for (Method m : c.getDeclaredMethods()) {
            if (Modifier.isPrivate(m.getModifiers())) {
                hold("a private name of its own: " + m, DUE.stream().noneMatch(d -> d.matches(m.getName() + "[0-9]")));
            } else {
                found.add(m.getName() + m.getParameterCount());
                hold("public: " + m, Modifier.isPublic(m.getModifiers()) && m.getReturnType() == int.class);
            }
        }
        hold("the methods", found.equals(new TreeSet<>(DUE)));
        for (Field f : c.getDeclaredFields()) {
            hold("private: " + f, f.getName().equals("NONE") || Modifier.isPrivate(f.getModifiers()));
            hold("final, if static: " + f, !Modifier.isStatic(f.getModifiers()) || Modifier.isFinal(f.getModifiers()));
        }
        Constructor<?>[] made = c.getDeclaredConstructors();
        hold("one constructor", made.length == 1 && made[0].getParameterCount() == 0);
        hold("twelve classes", 1 + c.getDeclaredClasses().length <= 12);
        for (Class<?> inner : c.getDeclaredClasses()) {
            hold("static and not public: " + inner,
                Modifier.isStatic(inner.getModifiers()) && Modifier.isPrivate(inner.getModifiers()));
            int fields = 0;
            for (Field f : inner.getDeclaredFields()) fields += Modifier.isStatic(f.getModifiers()) ? 0 : 1;
            hold("twenty fields: " + inner, fields <= 20);
            for (Method m : inner.getDeclaredMethods()) {
                hold("no public name: " + m, DUE.stream().noneMatch(d -> d.matches(m.getName() + "[0-9]")));
                hold("seven parameters: " + m, m.getParameterCount() <= 7);
            }
        }
    }

    private static void text(String text) {
        String bare = text.replaceAll("/\\*(?s:.*?)\\*/", " ").replaceAll("//[^\n]*", " ");
        for (char ch : text.toCharArray()) hold("signs 1 to 127", ch >= 1 && ch <= 127);
        for (String word : List.of("import", "package", "throw", "throws", "try", "catch", "finally", "synchronized",
            "assert", "instanceof", "->", "::", "Exact", "Object", "System", "Thread", "volatile", "native", "yield")) {
            boolean letters = Character.isLetter(word.charAt(0));
            Pattern p = Pattern.compile(letters ? "\\b" + word + "\\b" : Pattern.quote(word));
            hold("without " + word, !p.matcher(bare).find());
        }
        Matcher strings = Pattern.compile("\"[^\"\n]*\"\\s*\\+|\\+\\s*\"").matcher(bare);
        hold("no texts joined by +", !strings.find());
        List<String> long_ = new ArrayList<>();
        Matcher m = Pattern.compile("(?m)^( +)[^\n=]*\\)\\s*\\{\n((?:\\1 [^\n]*\n|\n)*)").matcher(bare);
        while (m.find()) if (m.group(2).split("\n").length > 60) long_.add(m.group().split("\n")[0]);
        hold("methods of sixty lines: " + long_, long_.isEmpty());
    }
}
