import java.util.Random;

/** Runs of calls by chance (the same ones every time), program and Model side by side. */
public final class Compare {
    private static final String[] CALLS = {"end", "smithy", "rule", "force", "smith", "job", "worn", "moment",
        "quench", "mend", "aside", "undo", "ahead", "ready", "all", "rota", "round", "beside", "worth", "splits",
        "order", "note", "ruled", "look", "second", "seed", "days", "count", "image", "back", "text", "go"};
    private static Random r;
    private static OneAnvil program;
    private static Model model;
    private static StringBuilder log;
    private static int wrong = 0;
    private static int calls = 0;
    private static final java.util.Map<String, java.util.Map<Integer, Integer>> SEEN = new java.util.TreeMap<>();

    public static void main(String[] args) {
        int runs = args.length > 0 ? Integer.parseInt(args[0]) : 300;
        int from = args.length > 1 ? Integer.parseInt(args[1]) : 1;
        for (int run = from; run < from + runs && wrong < 5; run++) {
            r = new Random(run);
            program = new OneAnvil();
            model = new Model();
            log = new StringBuilder();
            calls = 0;
            before = wrong;
            boolean large = r.nextInt(4) == 0;
            while (calls < 500 && wrong == before) one(large);
            if (wrong != before) System.out.println("run " + run + ":\n" + log);
        }
        if (args.length > 2) {
            SEEN.forEach((k, v) -> {
                StringBuilder b = new StringBuilder(k + ": ");
                v.entrySet().stream().sorted((p, q) -> q.getValue() - p.getValue()).limit(12)
                    .forEach(e -> b.append(e.getKey() + "x" + e.getValue() + " "));
                System.out.println(b);
            });
        }
        System.out.println(wrong == 0 ? runs + " runs are alike" : wrong + " runs differ");
        if (wrong != 0) System.exit(1);
    }

    private static int before = 0;

    private static void due(String call, int got, int want) {
        calls++;
        log.append(call).append(" -> ").append(got).append('\n');
        SEEN.computeIfAbsent(call.replaceAll("\\(.*", ""), k -> new java.util.HashMap<>()).merge(want, 1, Integer::sum);
        if (got != want && wrong == before) {
            log.append("    DUE IS ").append(want).append('\n');
            wrong++;
        }
    }

    /** Mostly within low to high, at times a little outside of it, rarely far out. */
    private static int in(int low, int high) {
        int k = r.nextInt(40);
        if (k == 0) return low - 1;
        if (k == 1) return high + 1;
        if (k == 2) return r.nextInt();
        return low + r.nextInt(high - low + 1);
    }

    private static int within(int low, int high) {
        return low + r.nextInt(high - low + 1);
    }

    private static void tell(String text) {
        byte[] b = new byte[(text.length() + 19) / 20 * 20];
        for (int i = 0; i < text.length(); i++) b[i] = (byte) text.charAt(i);
        int before = model.count(14);
        for (int i = 0; i < b.length; i += 20) {
            int[] v = new int[5];
            for (int k = 0; k < 20; k++) v[k / 4] = v[k / 4] << 8 | b[i + k] & 255;
            due("feed(" + java.util.Arrays.toString(v) + ")", program.feed(v[0], v[1], v[2], v[3], v[4]), model.feed(v));
        }
        int n = Math.min(400, before + text.length());
        log.append("TEXT ").append(text).append('\n');
        due("end(" + n + ")", program.end(n), model.end(n));
    }

    private static String blank() {
        return r.nextInt(12) == 0 ? " " : "";
    }

    private static int number(int low, int high) {
        int k = r.nextInt(150);
        if (k == 0) return low - 1 < 0 ? 100000 : low - 1;
        if (k == 1) return high + 1;
        return within(low, high);
    }

    private static final String[] PARTS = {"face", "beak", "heel", "weld"};

    /** One in which there is much to do, and which mostly can be done. */
    private static String livelyText() {
        StringBuilder b = new StringBuilder("smithy ");
        b.append(within(1, 4)).append(' ').append(within(25, 60)).append(' ')
            .append(r.nextInt(3) > 0 ? within(30, 200) : within(3, 30));
        int smiths = r.nextInt(5) == 0 ? 2 : 3;
        for (int k = 0; k < smiths; k++) b.append(";smith ").append(within(2, 20));
        int jobs = within(3, 8);
        int busy = r.nextInt(4) == 0 ? r.nextInt(smiths) : -1;
        for (int k = 0; k < jobs; k++) {
            int smith = busy >= 0 && r.nextInt(3) > 0 ? busy : r.nextInt(smiths);
            b.append(";job ").append(smith).append(' ').append(PARTS[r.nextInt(r.nextInt(3) == 0 ? 4 : 2)]).append(' ')
                .append(within(1, 8)).append(' ').append(within(3, 24)).append(' ').append(within(0, 9));
        }
        if (r.nextInt(3) == 0) b.append(";part ").append(within(0, 2)).append(' ').append(within(0, 20));
        return b.toString();
    }

    private static String smithyText() {
        if (r.nextInt(3) > 0) return livelyText();
        StringBuilder b = new StringBuilder();
        int strength = r.nextInt(3) == 0 ? number(1, 30) : number(1, 999);
        b.append(blank()).append("smithy ").append(number(1, 9)).append(' ').append(number(20, 99)).append(' ')
            .append(strength);
        int smiths = r.nextInt(12) == 0 ? 4 : r.nextInt(6) == 0 ? r.nextInt(4) : 3;
        int jobs = r.nextInt(12) == 0 ? 9 : r.nextInt(9);
        int told = 0;
        while (smiths > 0 || jobs > 0) {
            b.append(blank()).append(';').append(blank());
            if (smiths > 0 && (r.nextInt(3) > 0 || told == 0)) {
                b.append("smith").append(r.nextBoolean() ? " " : "").append(number(1, 20));
                smiths--;
                told++;
            } else if (jobs > 0 && told > 0) {
                String part = PARTS[r.nextInt(4)];
                b.append("job ").append(number(0, Math.min(told, 3) - 1)).append(blank()).append(part).append(blank())
                    .append(number(1, r.nextBoolean() ? 5 : 30)).append(' ').append(number(1, 50)).append(' ')
                    .append(number(0, 50));
                jobs--;
            } else {
                b.append("part ").append(number(0, 2)).append(' ').append(r.nextInt(4) == 0 ? number(0, 999) : number(0, 20));
                if (told == 0) break;
            }
        }
        while (r.nextInt(60) == 0 || r.nextInt(70) == 0 && b.length() < 300) {
            b.append(";part 1 0");
            if (r.nextInt(4) == 0) for (int k = 0; k < 40; k++) b.append(";part 0 ").append(k % 3);
        }
        return spoil(b.toString());
    }

    /** Now and then a byte is another one, or is away, or the text ends early. */
    private static String spoil(String text) {
        if (r.nextInt(8) != 0 || text.isEmpty()) return text;
        StringBuilder b = new StringBuilder(text);
        int at = r.nextInt(b.length());
        String signs = " ;0123456789abefhjmoprstwy[]<>=+-*/%!AZ_\t";
        switch (r.nextInt(5)) {
            case 0: b.setLength(at); break;
            case 1: b.deleteCharAt(at); break;
            case 2: b.insert(at, signs.charAt(r.nextInt(signs.length()))); break;
            case 3: b.setCharAt(at, (char) r.nextInt(256)); break;
            default: b.setCharAt(at, signs.charAt(r.nextInt(signs.length())));
        }
        return b.toString();
    }

    private static String value() {
        String[] words = {"smith", "heat", "hot", "need", "left", "pay", "quick", "moment", "worn", "rivals",
            "waits", "burn", "done"};
        if (r.nextInt(3) > 0) return words[r.nextInt(words.length)];
        int k = r.nextInt(60);
        if (k == 0) return "123456";
        if (k == 1) return "00007";
        if (k == 2) return "99999";
        return "" + r.nextInt(r.nextBoolean() ? 4 : 60);
    }

    private static String sum() {
        StringBuilder b = new StringBuilder(value());
        while (r.nextInt(3) == 0) b.append(" ").append("+-*/%".charAt(r.nextInt(5))).append(blank()).append(value());
        return b.toString();
    }

    private static String fact(int depth) {
        if (depth < 12 && r.nextInt(5) == 0) return "not " + fact(depth + 1);
        if (depth < 12 && r.nextInt(5) == 0) return "[" + blank() + test(depth + 1) + blank() + "]";
        return sum() + blank() + new String[] {"<", "<=", "=", ">=", ">"}[r.nextInt(5)] + blank() + sum();
    }

    private static String test(int depth) {
        StringBuilder b = new StringBuilder(fact(depth));
        while (r.nextInt(4) == 0) b.append(r.nextBoolean() ? " and " : " or ").append(fact(depth));
        return b.toString();
    }

    private static String ruleText() {
        StringBuilder b = new StringBuilder();
        if (r.nextInt(30) == 0) {
            b.append("strike 1 if ");
            int deep = 9 + r.nextInt(3);
            int shut = 0;
            for (int k = 0; k < deep; k++) {
                boolean opens = r.nextBoolean();
                b.append(opens ? "[" : "not ");
                shut += opens ? 1 : 0;
            }
            b.append("hot=1");
            for (int k = 0; k < shut; k++) b.append(']');
            return spoil(b.toString());
        }
        if (r.nextInt(30) == 0) {
            b.append("strike 1");
            int more = 54 + r.nextInt(8);
            for (int k = 0; k < more; k++) b.append("+").append(k % 10);
            b.append(" if heat<9 and heat > ").append(value());
            return spoil(b.toString());
        }
        if (r.nextInt(30) == 0) {
            int n = 11 + r.nextInt(4);
            for (int k = 0; k < n; k++) b.append(k > 0 ? ";" : "").append("strike ").append(value());
            return spoil(b.toString());
        }
        int k = r.nextInt(6);
        if (k == 0) return spoil("strike hot");
        if (k == 1) return spoil("strike heat - need - " + r.nextInt(20));
        if (k == 2) return spoil("strike hot if smith = 0 or rivals = 0; strike heat-need-3 if left>2;strike waits<3");
        if (k == 3) return spoil("strike 0 if heat<need;strike 1 if burn<quick;strike " + sum() + " if " + test(0));
        int clauses = 1 + r.nextInt(4);
        for (int c = 0; c < clauses; c++) {
            b.append(c > 0 ? ";" + blank() : "").append("strike ").append(sum());
            if (r.nextInt(4) > 0) b.append(" if ").append(test(0));
        }
        return spoil(b.toString());
    }

    private static void text() {
        if (r.nextInt(10) > 0) clear();
        if (model.smithy == null || r.nextInt(4) == 0) {
            tell(smithyText());
            if (r.nextInt(30) > 0) due("smithy()", program.smithy(), model.smithy());
            else due("rule()", program.rule(), model.rule());
        } else if (r.nextInt(2) > 0 && model.rules.size() < 6 || r.nextInt(10) == 0) {
            tell(ruleText());
            due("rule()", program.rule(), model.rule());
        }
    }

    private static void clear() {
        if (model.count(14) > 0) due("end(0)", program.end(0), model.end(0));
    }

    private static void one(boolean large) {
        if (model.smithy == null && r.nextInt(5) > 0) {
            text();
            return;
        }
        String call = CALLS[r.nextInt(CALLS.length)];
        if (call.equals("order") && !large && r.nextInt(4) > 0) call = "moment";
        int a;
        int b;
        int c;
        int d;
        switch (call) {
            case "end": a = in(0, 30); due("end(" + a + ")", program.end(a), model.end(a)); break;
            case "smithy": if (r.nextInt(20) == 0) due("smithy()", program.smithy(), model.smithy()); break;
            case "rule": if (r.nextInt(20) == 0) due("rule()", program.rule(), model.rule()); break;
            case "force": a = in(-1, Math.max(0, model.rules.size() - 1)); due("force(" + a + ")", program.force(a), model.force(a)); break;
            case "smith": a = in(0, 2); b = in(0, 8); due("smith(" + a + "," + b + ")", program.smith(a, b), model.smith(a, b)); break;
            case "job": a = in(0, 7); b = in(0, 5); due("job(" + a + "," + b + ")", program.job(a, b), model.job(a, b)); break;
            case "worn": a = in(0, 2); due("worn(" + a + ")", program.worn(a), model.worn(a)); break;
            case "moment": due("moment()", program.moment(), model.moment()); break;
            case "go":
                a = r.nextInt(6) == 0 ? 25 : r.nextInt(4);
                for (int k = 0; k < a; k++) due("moment()", program.moment(), model.moment());
                break;
            case "quench": a = in(0, 2); due("quench(" + a + ")", program.quench(a), model.quench(a)); break;
            case "mend": a = in(0, 2); due("mend(" + a + ")", program.mend(a), model.mend(a)); break;
            case "aside": a = in(0, 2); due("aside(" + a + ")", program.aside(a), model.aside(a)); break;
            case "undo":
                a = r.nextInt(4) == 0 ? r.nextInt(23) : 1;
                for (int k = 0; k < a; k++) due("undo()", program.undo(), model.undo());
                break;
            case "ahead": a = in(0, 2); b = in(0, 200); c = in(0, 2); due("ahead(" + a + "," + b + "," + c + ")", program.ahead(a, b, c), model.ahead(a, b, c)); break;
            case "ready": a = in(0, 7); due("ready(" + a + ")", program.ready(a), model.ready(a)); break;
            case "all": due("all()", program.all(), model.all()); break;
            case "rota": a = in(1, large ? 4 : 3); b = in(0, 4); due("rota(" + a + "," + b + ")", program.rota(a, b), model.rota(a, b)); break;
            case "round": a = in(0, 3); due("round(" + a + ")", program.round(a), model.round(a)); break;
            case "beside": a = in(0, 4); due("beside(" + a + ")", program.beside(a), model.beside(a)); break;
            case "worth": a = in(0, 2); b = in(1, 60); due("worth(" + a + "," + b + ")", program.worth(a, b), model.worth(a, b)); break;
            case "splits": a = in(0, 2); b = in(0, 1); due("splits(" + a + "," + b + ")", program.splits(a, b), model.splits(a, b)); break;
            case "order": a = in(0, 2); b = in(0, 5); due("order(" + a + "," + b + ")", program.order(a, b), model.order(a, b)); break;
            case "note": note(); break;
            case "ruled": a = in(0, 1); due("ruled(" + a + ")", program.ruled(a), model.ruled(a)); break;
            case "look": a = in(0, 99); b = in(0, 1); due("look(" + a + "," + b + ")", program.look(a, b), model.look(a, b)); break;
            case "second": due("second()", program.second(), model.second()); break;
            case "seed": a = r.nextBoolean() ? in(0, 1000) : r.nextInt(); due("seed(" + a + ")", program.seed(a), model.seed(a)); break;
            case "days": a = in(1, 10); b = in(1, 99); c = in(0, 100); d = in(0, 1);
                due("days(" + a + "," + b + "," + c + "," + d + ")", program.days(a, b, c, d), model.days(a, b, c, d)); break;
            case "count": a = in(0, 14); due("count(" + a + ")", program.count(a), model.count(a)); break;
            case "image": a = in(0, 3); due("image(" + a + ")", program.image(a), model.image(a)); break;
            case "back": a = in(0, 3); if (r.nextInt(3) > 0) due("back(" + a + ")", program.back(a), model.back(a)); break;
            default: text();
        }
    }

    /** Mostly a NOTE that one of the RULES keeps, so that some stay. */
    private static void note() {
        int a = r.nextInt(12) == 0 ? -1 : in(0, r.nextBoolean() ? 99 : 20);
        int b = in(0, 2);
        int c = in(0, 30);
        if (model.smithy != null && a >= 0 && a < 100 && b >= 0 && b < 3 && r.nextInt(6) > 0) {
            int k = r.nextInt(model.rules.size() + 1) - 1;
            Model.State st = new Model.State(model.smithy);
            for (int n = 0; n < a; n++) Model.step(model.smithy, st, new Model.Way(k < 0 ? null : model.rules.get(k)));
            c = st.worn[b];
        }
        due("note(" + a + "," + b + "," + c + ")", program.note(a, b, c), model.note(a, b, c));
    }
}
