import java.lang.reflect.InvocationTargetException;
import java.lang.reflect.Method;
import java.lang.reflect.Modifier;
import java.util.Arrays;
import java.util.Comparator;
import java.util.function.IntSupplier;

/** What the tests share: telling texts, and holding answers against those that are due. */
class Bench {
    static final int FAR_BELOW = Integer.MIN_VALUE;
    static final int FAR_ABOVE = Integer.MAX_VALUE;

    private static String test = "";
    private static int wrong = 0;

    /** Runs every test of a class, each for itself: its static methods without parameters or an answer. */
    static void runAll(Class<?> tests) {
        Method[] all = tests.getDeclaredMethods();
        Arrays.sort(all, Comparator.comparing(Method::getName));
        int passed = 0;
        int failed = 0;
        for (Method m : all) {
            boolean isTest = Modifier.isStatic(m.getModifiers()) && m.getParameterCount() == 0
                && m.getReturnType() == void.class && !m.isSynthetic();
            if (isTest && passes(m)) passed++;
            else if (isTest) failed++;
        }
        System.out.println(tests.getName() + ": " + passed + " passed, " + failed + " failed");
        if (failed != 0 || passed == 0) System.exit(1);
    }

    private static boolean passes(Method m) {
        test = m.getName();
        wrong = 0;
        try {
            m.setAccessible(true);
            m.invoke(null);
        } catch (InvocationTargetException e) {
            wrong++;
            System.out.println(test + " threw " + e.getCause());
        } catch (IllegalAccessException e) {
            wrong++;
            System.out.println(test + " can't be called");
        }
        return wrong == 0;
    }

    static void due(String what, int got, int want) {
        if (got != want) {
            wrong++;
            System.out.println(test + ", " + what + ": " + got + ", due is " + want);
        }
    }

    static void dueRow(String what, int[] got, int... want) {
        if (!Arrays.equals(got, want)) {
            wrong++;
            System.out.println(test + ", " + what + ": " + Arrays.toString(got) + ", due is " + Arrays.toString(want));
        }
    }

    /** Each call answers so, and all that can be seen is as it was. */
    static void refused(OneAnvil o, int want, IntSupplier... calls) {
        String before = seen(o);
        for (int k = 0; k < calls.length; k++) due("refused call " + k, calls[k].getAsInt(), want);
        if (!before.equals(seen(o))) {
            wrong++;
            System.out.println(test + ": something happened\n  was " + before + "\n  is  " + seen(o));
        }
    }

    /** All that can be seen of how it stands, in 93 calls. */
    static String seen(OneAnvil o) {
        StringBuilder b = new StringBuilder("count");
        for (int k = 0; k <= 14; k++) b.append(' ').append(o.count(k));
        for (int i = 0; i < 3; i++) {
            b.append("; smith");
            for (int k = 0; k <= 8; k++) b.append(' ').append(o.smith(i, k));
        }
        for (int j = 0; j < 8; j++) {
            b.append("; job");
            for (int k = 0; k <= 5; k++) b.append(' ').append(o.job(j, k));
        }
        b.append("; worn");
        for (int p = 0; p < 3; p++) b.append(' ').append(o.worn(p));
        return b.toString();
    }

    /** The TAPE has this text alone. */
    static void tell(OneAnvil o, String text) {
        o.end(0);
        for (int i = 0; i < text.length(); i += 20) {
            int[] v = new int[5];
            for (int k = 0; k < 20; k++) v[k / 4] = v[k / 4] << 8 | (i + k < text.length() ? text.charAt(i + k) : 0);
            o.feed(v[0], v[1], v[2], v[3], v[4]);
        }
        if (o.end(text.length()) != text.length()) throw new IllegalStateException(text);
    }

    static int smithy(OneAnvil o, String text) {
        tell(o, text);
        return o.smithy();
    }

    static int rule(OneAnvil o, String text) {
        tell(o, text);
        return o.rule();
    }

    static OneAnvil of(String smithy, String... rules) {
        OneAnvil o = new OneAnvil();
        if (smithy(o, smithy) < 0) throw new IllegalStateException(smithy);
        for (String rule : rules) {
            if (rule(o, rule) < 0) throw new IllegalStateException(rule);
        }
        return o;
    }

    /** As above, and the first of the RULES is IN FORCE. */
    static OneAnvil by(String smithy, String... rules) {
        OneAnvil o = of(smithy, rules);
        o.force(0);
        return o;
    }

    static void go(OneAnvil o, int n) {
        for (int k = 0; k < n; k++) o.moment();
    }

    static String times(String text, int n) {
        return text.repeat(n);
    }

    static int fault(int place, int code) {
        return -2 - (1 + 8 * place + code);
    }
}
