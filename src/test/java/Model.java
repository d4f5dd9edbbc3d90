import java.util.ArrayList;
import java.util.Arrays;
import java.util.HashMap;
import java.util.List;
import java.util.Map;

/**
 * The document once more, written for plainness alone and apart from the program: texts as strings, rules
 * as trees, all orders and rows tried one by one. Compare.java holds the program against it.
 */
final class Model {
    static final int NONE = -1;

    static final class Fault extends RuntimeException {
        final int number;

        Fault(int place, int code) {
            super(null, null, false, false);
            number = 1 + 8 * place + code;
        }
    }

    // ---- Texts

    static final class Token {
        final char kind; // 'w' word, 'n' number, 's' sign, 'e' end
        final String text;
        final int place;

        Token(char kind, String text, int place) {
            this.kind = kind;
            this.text = text;
            this.place = place;
        }

        boolean is(String other) {
            return kind != 'e' && text.equals(other);
        }
    }

    static final class Tokens {
        final List<Token> all = new ArrayList<>();
        int at = 0;

        Tokens(String text) {
            int i = 0;
            while (i < text.length()) {
                char c = text.charAt(i);
                int j = i + 1;
                if (c == ' ') {
                    i++;
                    continue;
                }
                if (c >= 'a' && c <= 'z') {
                    while (j < text.length() && text.charAt(j) >= 'a' && text.charAt(j) <= 'z') j++;
                    all.add(new Token('w', text.substring(i, j), i));
                } else if (c >= '0' && c <= '9') {
                    while (j < text.length() && text.charAt(j) >= '0' && text.charAt(j) <= '9') j++;
                    all.add(new Token('n', text.substring(i, j), i));
                } else {
                    if ((c == '<' || c == '>') && j < text.length() && text.charAt(j) == '=') j++;
                    all.add(new Token('s', text.substring(i, j), i));
                }
                i = j;
            }
            all.add(new Token('e', "", text.length()));
        }

        Token peek() {
            return all.get(at);
        }

        Token take() {
            return all.get(at++);
        }

        Fault odd() {
            return new Fault(peek().place, 0);
        }

        int number(int low, int high) {
            Token t = peek();
            if (t.kind != 'n') throw odd();
            if (t.text.length() > 5) throw new Fault(t.place, 1);
            int v = Integer.parseInt(t.text);
            if (v < low || v > high) throw new Fault(t.place, 1);
            at++;
            return v;
        }
    }

    static final class Job {
        int smith, part, blows, heat, pay;

        boolean needs(int p) {
            return part == p || part == 3 && p < 2;
        }

        boolean meets(Job other) {
            for (int p = 0; p < 3; p++) if (needs(p) && other.needs(p)) return true;
            return false;
        }
    }

    static final class Smithy {
        int cool, burn, strength;
        final List<Integer> quick = new ArrayList<>();
        final List<Job> jobs = new ArrayList<>();
        final int[] used = new int[3];

        Smithy(String text) {
            Tokens t = new Tokens(text);
            int clauses = 0;
            while (true) {
                Token head = t.peek();
                if (!Arrays.asList("smithy", "smith", "job", "part").contains(head.text)) throw t.odd();
                if (clauses == 40) throw new Fault(head.place, 4);
                if (head.is("smithy") != (clauses == 0)) throw new Fault(head.place, 4);
                if (head.is("smith") && quick.size() == 3) throw new Fault(head.place, 4);
                if (head.is("job") && jobs.size() == 8) throw new Fault(head.place, 4);
                t.take();
                clauses++;
                if (head.is("smithy")) {
                    cool = t.number(1, 9);
                    burn = t.number(20, 99);
                    strength = t.number(1, 999);
                } else if (head.is("smith")) {
                    quick.add(t.number(1, 20));
                } else if (head.is("part")) {
                    int p = t.number(0, 2);
                    used[p] = t.number(0, 999);
                } else {
                    Job j = new Job();
                    j.smith = t.number(0, quick.size() - 1);
                    j.part = Arrays.asList("face", "beak", "heel", "weld").indexOf(t.peek().text);
                    if (j.part < 0) throw t.odd();
                    t.take();
                    j.blows = t.number(1, 30);
                    j.heat = t.number(1, 50);
                    j.pay = t.number(0, 50);
                    jobs.add(j);
                }
                if (t.peek().kind == 'e') return;
                if (!t.peek().is(";")) throw t.odd();
                t.take();
            }
        }
    }

    /** A node of a RULE's tree. */
    static final class Node {
        final String sign;
        final Node[] parts;

        Node(String sign, Node... parts) {
            this.sign = sign;
            this.parts = parts;
        }

        long value(Map<String, Long> words) {
            if (parts.length == 0) {
                return Character.isDigit(sign.charAt(0)) ? Long.parseLong(sign) : words.get(sign);
            }
            long a = parts[0].value(words);
            if (sign.equals("not")) return a == 0 ? 1 : 0;
            long b = parts[1].value(words);
            switch (sign) {
                case "+": return a + b;
                case "-": return a - b;
                case "*": return a * b;
                case "/": return b == 0 ? 0 : a / b;
                case "%": return b == 0 ? 0 : a % b;
                case "<": return a < b ? 1 : 0;
                case "<=": return a <= b ? 1 : 0;
                case "=": return a == b ? 1 : 0;
                case ">=": return a >= b ? 1 : 0;
                case ">": return a > b ? 1 : 0;
                case "and": return a != 0 && b != 0 ? 1 : 0;
                case "or": return a != 0 || b != 0 ? 1 : 0;
                default: throw new IllegalStateException(sign);
            }
        }
    }

    static final class Rule {
        static final List<String> WORDS = Arrays.asList("smith", "heat", "hot", "need", "left", "pay", "quick",
            "moment", "worn", "rivals", "waits", "burn", "done");
        final List<Node> sums = new ArrayList<>();
        final List<Node> tests = new ArrayList<>();
        private final Tokens t;
        private int size = 0;

        Rule(String text) {
            t = new Tokens(text);
            while (true) {
                if (!t.peek().is("strike")) throw t.odd();
                if (sums.size() == 12) throw new Fault(t.peek().place, 4);
                t.take();
                sums.add(sum());
                if (t.peek().is("if")) {
                    t.take();
                    tests.add(test(0));
                } else {
                    tests.add(null);
                }
                if (t.peek().kind == 'e') return;
                if (!t.peek().is(";")) throw t.odd();
                t.take();
            }
        }

        private void grow() {
            if (size == 60) throw new Fault(t.peek().place, 3);
            size++;
        }

        private Node value() {
            Token v = t.peek();
            if (v.kind == 'w') {
                if (!WORDS.contains(v.text)) throw t.odd();
                grow();
                t.take();
                return new Node(v.text);
            }
            if (v.kind != 'n') throw t.odd();
            if (v.text.length() > 5) throw new Fault(v.place, 1);
            grow();
            t.take();
            return new Node(v.text);
        }

        private Node term() {
            Node left = value();
            while (t.peek().is("*") || t.peek().is("/") || t.peek().is("%")) {
                String sign = t.take().text;
                left = new Node(sign, left, value());
            }
            return left;
        }

        private Node sum() {
            Node left = term();
            while (t.peek().is("+") || t.peek().is("-")) {
                String sign = t.take().text;
                left = new Node(sign, left, term());
            }
            return left;
        }

        private Node test(int depth) {
            Node left = part(depth);
            while (t.peek().is("or")) {
                t.take();
                left = new Node("or", left, part(depth));
            }
            return left;
        }

        private Node part(int depth) {
            Node left = fact(depth);
            while (t.peek().is("and")) {
                t.take();
                left = new Node("and", left, fact(depth));
            }
            return left;
        }

        private Node fact(int depth) {
            Token head = t.peek();
            if (head.is("not") || head.is("[")) {
                if (depth == 10) throw new Fault(head.place, 2);
                t.take();
                if (head.is("not")) return new Node("not", fact(depth + 1));
                Node inner = test(depth + 1);
                if (!t.peek().is("]")) throw t.odd();
                t.take();
                return inner;
            }
            Node left = sum();
            if (!Arrays.asList("<", "<=", "=", ">=", ">").contains(t.peek().text)) throw t.odd();
            grow();
            String sign = t.take().text;
            return new Node(sign, left, sum());
        }

        boolean strikes(Map<String, Long> words) {
            for (int k = 0; k < sums.size(); k++) {
                if (tests.get(k) == null || tests.get(k).value(words) != 0) return sums.get(k).value(words) > 0;
            }
            return false;
        }
    }

    // ---- How all stands

    static final class State {
        int moment = 0;
        int[] heat, waits, burnt, cold;
        int[] left, since;
        List<List<Integer>> todo = new ArrayList<>();
        int[] worn = new int[4];

        State(Smithy s) {
            int n = s.quick.size();
            heat = new int[n];
            waits = new int[n];
            burnt = new int[n];
            cold = new int[n];
            left = new int[s.jobs.size()];
            since = new int[s.jobs.size()];
            for (int i = 0; i < n; i++) todo.add(new ArrayList<>());
            for (int j = 0; j < s.jobs.size(); j++) {
                left[j] = s.jobs.get(j).blows;
                since[j] = NONE;
                todo.get(s.jobs.get(j).smith).add(j);
            }
            for (int p = 0; p < 3; p++) worn[p] = s.used[p];
        }

        State(State o) {
            moment = o.moment;
            heat = o.heat.clone();
            waits = o.waits.clone();
            burnt = o.burnt.clone();
            cold = o.cold.clone();
            left = o.left.clone();
            since = o.since.clone();
            worn = o.worn.clone();
            for (List<Integer> l : o.todo) todo.add(new ArrayList<>(l));
        }

        int job(int smith) {
            return todo.get(smith).isEmpty() ? NONE : todo.get(smith).get(0);
        }

        int doneOf(Smithy s, int smith) {
            int n = 0;
            for (int j = 0; j < left.length; j++) if (s.jobs.get(j).smith == smith && left[j] == 0) n++;
            return n;
        }
    }

    static final class Way {
        Rule rule;
        int gone = NONE;
        int set = NONE;
        boolean two, noHeat;

        Way(Rule rule) {
            this.rule = rule;
        }
    }

    static final class Told {
        int blows, burns;
        int[] blow;
        int[] taken = {NONE, NONE, NONE, NONE};
    }

    static Map<String, Long> words(Smithy s, State st, int i, int gone) {
        Job job = s.jobs.get(st.job(i));
        Map<String, Long> w = new HashMap<>();
        int worn = 0;
        for (int p = 0; p < 3; p++) if (job.needs(p)) worn = Math.max(worn, st.worn[p]);
        long rivals = 0;
        for (int o = 0; o < s.quick.size(); o++) {
            if (o != i && o != gone && st.job(o) != NONE && s.jobs.get(st.job(o)).meets(job)) rivals++;
        }
        w.put("smith", (long) i);
        w.put("heat", (long) st.heat[i]);
        w.put("hot", st.heat[i] >= job.heat ? 1L : 0L);
        w.put("need", (long) job.heat);
        w.put("left", (long) st.left[st.job(i)]);
        w.put("pay", (long) job.pay);
        w.put("quick", (long) s.quick.get(i));
        w.put("moment", (long) st.moment);
        w.put("worn", (long) worn);
        w.put("rivals", rivals);
        w.put("waits", (long) st.waits[i]);
        w.put("burn", (long) (s.burn - st.heat[i]));
        w.put("done", (long) st.doneOf(s, i));
        return w;
    }

    static boolean wills(Smithy s, State st, int i, Way way) {
        if (way.set != NONE) return (way.set & 1 << i) != 0;
        if (way.rule == null) return st.heat[i] >= s.jobs.get(st.job(i)).heat;
        return way.rule.strikes(words(s, st, i, way.gone));
    }

    /** One MOMENT, into the state itself. */
    static Told step(Smithy s, State st, Way way) {
        Told told = new Told();
        int n = s.quick.size();
        told.blow = new int[n];
        State old = new State(st);
        for (int i = 0; i < n; i++) {
            int j = old.job(i);
            if (j == NONE || i == way.gone) continue;
            Job job = s.jobs.get(j);
            if (!wills(s, old, i, way)) {
                st.waits[i] = 0;
                if (!way.noHeat) st.heat[i] += s.quick.get(i);
                if (st.heat[i] > s.burn) {
                    st.heat[i] = 0;
                    st.left[j] = job.blows;
                    st.burnt[i]++;
                    told.burns++;
                }
                continue;
            }
            List<Integer> parts = new ArrayList<>();
            for (int p = 0; p < 3; p++) if (job.needs(p)) parts.add(p);
            if (!free(s, old, told, parts) && way.two && job.part == 0) parts = Arrays.asList(3);
            st.heat[i] = Math.max(0, st.heat[i] - s.cool);
            if (!free(s, old, told, parts)) {
                st.waits[i]++;
                continue;
            }
            st.waits[i] = 0;
            for (int p : parts) {
                told.taken[p] = i;
                st.worn[p] = Math.min(9999, st.worn[p] + 1);
            }
            if (old.heat[i] < job.heat) {
                st.cold[i]++;
                continue;
            }
            told.blows++;
            told.blow[i]++;
            st.left[j]--;
            if (st.left[j] == 0) {
                st.since[j] = old.moment + 1;
                st.heat[i] = 0;
                st.todo.get(i).remove(0);
            }
        }
        st.moment = Math.min(9999, st.moment + 1);
        return told;
    }

    static boolean free(Smithy s, State old, Told told, List<Integer> parts) {
        for (int p : parts) if (told.taken[p] != NONE || old.worn[p] >= s.strength) return false;
        return true;
    }

    // ---- The object

    String tape = "";
    Smithy smithy = null;
    State now = null;
    List<int[]> notes = new ArrayList<>();
    int inForce = NONE;
    int x = 0;
    final List<Rule> rules = new ArrayList<>();
    List<State> past = new ArrayList<>();
    final Object[][] images = new Object[4][];

    private Rule ruleNow() {
        return inForce == NONE ? null : rules.get(inForce);
    }

    private Way way() {
        return new Way(ruleNow());
    }

    private boolean noSmith(int i) {
        return smithy == null || i < 0 || i >= smithy.quick.size();
    }

    private boolean noJob(int j) {
        return smithy == null || j < 0 || j >= smithy.jobs.size();
    }

    private boolean noPart(int p) {
        return smithy == null || p < 0 || p > 2;
    }

    private void act() {
        past.add(new State(now));
        if (past.size() > 20) past.remove(0);
    }

    int feed(int... abcde) {
        if (tape.length() + 20 > 400) return NONE;
        StringBuilder b = new StringBuilder(tape);
        for (int v : abcde) for (int k = 3; k >= 0; k--) b.append((char) (v >> 8 * k & 255));
        tape = b.toString();
        return tape.length();
    }

    int end(int n) {
        if (n < 0 || n > tape.length()) return NONE;
        tape = tape.substring(0, n);
        return n;
    }

    int smithy() {
        String text = tape;
        tape = "";
        try {
            smithy = new Smithy(text);
        } catch (Fault f) {
            return -2 - f.number;
        }
        now = new State(smithy);
        notes = new ArrayList<>();
        past = new ArrayList<>();
        return smithy.jobs.size();
    }

    int rule() {
        if (rules.size() == 6) return NONE;
        String text = tape;
        tape = "";
        try {
            rules.add(new Rule(text));
        } catch (Fault f) {
            return -2 - f.number;
        }
        return rules.size() - 1;
    }

    int force(int rule) {
        if (rule != NONE && (rule < 0 || rule >= rules.size())) return -2;
        int was = inForce;
        inForce = rule;
        return was;
    }

    int smith(int i, int what) {
        if (noSmith(i) || what < 0 || what > 8) return -2;
        int job = now.job(i);
        int pay = 0;
        for (int j = 0; j < now.left.length; j++) {
            if (smithy.jobs.get(j).smith == i && now.left[j] == 0) pay += smithy.jobs.get(j).pay;
        }
        int hot = job != NONE && now.heat[i] >= smithy.jobs.get(job).heat ? 1 : 0;
        return new int[] {now.heat[i], job, hot, now.waits[i], now.doneOf(smithy, i), pay, now.burnt[i],
            smithy.quick.get(i), now.cold[i]}[what];
    }

    int job(int j, int what) {
        if (noJob(j) || what < 0 || what > 5) return -2;
        Job job = smithy.jobs.get(j);
        return new int[] {job.smith, job.part, now.left[j], job.heat, job.pay, now.since[j]}[what];
    }

    int worn(int p) {
        return noPart(p) ? NONE : now.worn[p];
    }

    int moment() {
        if (smithy == null || now.moment == 9999) return NONE;
        act();
        return step(smithy, now, way()).blows;
    }

    int quench(int i) {
        if (noSmith(i) || now.heat[i] == 0) return NONE;
        act();
        int was = now.heat[i];
        now.heat[i] = 0;
        return was;
    }

    int mend(int p) {
        if (noPart(p) || now.worn[p] == 0) return NONE;
        act();
        return now.worn[p] /= 2;
    }

    int aside(int i) {
        if (noSmith(i) || now.todo.get(i).size() < 2) return NONE;
        act();
        now.todo.get(i).add(now.todo.get(i).remove(0));
        now.heat[i] = 0;
        return now.job(i);
    }

    int undo() {
        if (past.isEmpty()) return NONE;
        now = past.remove(past.size() - 1);
        return past.size();
    }

    int ahead(int i, int n, int what) {
        if (noSmith(i) || n < 0 || n > 200 || what < 0 || what > 2) return NONE;
        State st = new State(now);
        for (int k = 0; k < n; k++) step(smithy, st, way());
        int left = st.job(i) == NONE ? 0 : st.left[st.job(i)];
        return new int[] {st.heat[i], left, st.doneOf(smithy, i)}[what];
    }

    int ready(int j) {
        if (noJob(j)) return NONE;
        State st = new State(now);
        for (int k = 0; k < 500; k++) step(smithy, st, way());
        return st.since[j] == NONE ? -2 : st.since[j];
    }

    int all() {
        if (smithy == null) return NONE;
        int last = now.moment;
        for (int j = 0; j < now.left.length; j++) {
            int r = ready(j);
            if (r == -2) return -2;
            last = Math.max(last, r);
        }
        return last;
    }

    int rota(int n, int what) {
        if (smithy == null || n < 1 || n > 4 || what < 0 || what > 4) return NONE;
        if (what > n) return -2;
        int best = NONE;
        int[] bestRow = null;
        for (int code = 0; code < Math.pow(8, n); code++) {
            int[] row = new int[n];
            int rest = code;
            for (int k = n - 1; k >= 0; k--) {
                row[k] = rest % 8;
                rest /= 8;
            }
            State st = new State(now);
            int blows = 0;
            boolean may = true;
            for (int k = 0; k < n && may; k++) {
                for (int i = 0; i < 3; i++) {
                    if ((row[k] & 1 << i) != 0 && (noSmith(i) || st.job(i) == NONE)) may = false;
                }
                Way w = way();
                w.set = row[k];
                blows += step(smithy, st, w).blows;
            }
            if (may && blows > best) {
                best = blows;
                bestRow = row;
            }
        }
        return what == 0 ? best : bestRow[what - 1];
    }

    int round(int what) {
        if (smithy == null || what < 0 || what > 3) return NONE;
        if (what > smithy.quick.size()) return -2;
        Map<String, Integer> seen = new HashMap<>();
        List<int[]> blows = new ArrayList<>();
        int[] heat = now.heat.clone();
        while (!seen.containsKey(Arrays.toString(heat))) {
            seen.put(Arrays.toString(heat), blows.size());
            State st = new State(now);
            st.heat = heat.clone();
            for (int j = 0; j < st.left.length; j++) if (st.left[j] > 0) st.left[j] = 99;
            Way w = way();
            State asked = new State(now);
            asked.heat = heat.clone();
            w.set = 0;
            for (int i = 0; i < heat.length; i++) {
                if (now.job(i) != NONE && wills(smithy, asked, i, way())) w.set |= 1 << i;
            }
            blows.add(step(smithy, st, w).blow);
            heat = st.heat;
        }
        int from = seen.get(Arrays.toString(heat));
        if (what == 0) return blows.size() - from;
        int sum = 0;
        for (int k = from; k < blows.size(); k++) sum += blows.get(k)[what - 1];
        return sum;
    }

    int beside(int what) {
        if (smithy == null || what < 0 || what > 4) return -3;
        if (what >= 2 && noSmith(what - 2)) return -2;
        int[] best = {-1, -1, -1, -1, -1};
        int n = now.left.length;
        for (int a = -1; a < n; a++) {
            for (int b = -1; b < n; b++) {
                for (int c = -1; c < n; c++) {
                    int[] row = {0, 0, a, b, c};
                    boolean may = true;
                    int[] needed = new int[3];
                    for (int i = 0; i < 3; i++) {
                        int j = row[2 + i];
                        if (j == NONE) continue;
                        Job job = smithy.jobs.get(j);
                        may &= job.smith == i && now.left[j] > 0;
                        row[0]++;
                        row[1] += job.pay;
                        for (int p = 0; p < 3; p++) if (job.needs(p)) needed[p]++;
                    }
                    for (int p = 0; p < 3; p++) may &= needed[p] < 2;
                    if (may && (row[0] > best[0] || row[0] == best[0] && row[1] > best[1])) best = row;
                }
            }
        }
        return best[what];
    }

    private int others(int i, int n, int gone) {
        State st = new State(now);
        int sum = 0;
        Way w = way();
        w.gone = gone;
        for (int k = 0; k < n; k++) {
            Told t = step(smithy, st, w);
            for (int o = 0; o < t.blow.length; o++) if (o != i) sum += t.blow[o];
        }
        return sum;
    }

    int worth(int i, int n) {
        if (noSmith(i) || n < 1 || n > 60) return -100000;
        return others(i, n, i) - others(i, n, NONE);
    }

    int splits(int p, int what) {
        if (noPart(p) || what < 0 || what > 1) return -3;
        State st = new State(now);
        if (st.worn[p] >= smithy.strength) return NONE;
        for (int k = 0; k < 500; k++) {
            Told t = step(smithy, st, way());
            if (st.worn[p] >= smithy.strength) return what == 0 ? now.moment + k : t.taken[p];
        }
        return -2;
    }

    private static void orders(List<Integer> jobs, List<Integer> begun, List<List<Integer>> all) {
        if (begun.size() == jobs.size()) all.add(new ArrayList<>(begun));
        for (int j : jobs) {
            if (begun.contains(j)) continue;
            begun.add(j);
            orders(jobs, begun, all);
            begun.remove(begun.size() - 1);
        }
    }

    int order(int i, int what) {
        if (noSmith(i) || what < 0 || what > 5) return NONE;
        List<Integer> jobs = new ArrayList<>(now.todo.get(i));
        if (jobs.size() > 5) return -3;
        if (jobs.isEmpty()) return what == 0 ? now.moment : -2;
        jobs.sort(null);
        List<List<Integer>> all = new ArrayList<>();
        orders(jobs, new ArrayList<>(), all);
        int best = 501;
        List<Integer> bestOrder = null;
        for (List<Integer> order : all) {
            State st = new State(now);
            if (!order.get(0).equals(now.todo.get(i).get(0))) st.heat[i] = 0;
            st.todo.set(i, new ArrayList<>(order));
            int k = 0;
            while (k < 501 && !st.todo.get(i).isEmpty()) {
                step(smithy, st, way());
                k++;
            }
            if (k < best) {
                best = k;
                bestOrder = order;
            }
        }
        if (best == 501 || what > jobs.size()) return -2;
        return what == 0 ? now.moment + best : bestOrder.get(what - 1);
    }

    int note(int n, int p, int worn) {
        if (n == NONE) {
            notes = new ArrayList<>();
            return 0;
        }
        if (n < 0 || n > 99 || noPart(p) || worn < 0 || worn > 9999 || notes.size() == 10) return -2;
        notes.add(new int[] {n, p, worn});
        return notes.size();
    }

    /** The rows of WORN of the parts at the begin of MOMENTS 0 to 99 by a RULE, or null, if a NOTE isn't so. */
    private int[][] course(Rule rule) {
        State st = new State(smithy);
        int[][] rows = new int[100][];
        for (int n = 0; n < 100; n++) {
            rows[n] = st.worn.clone();
            step(smithy, st, new Way(rule));
        }
        for (int[] note : notes) if (rows[note[0]][note[1]] != note[2]) return null;
        return rows;
    }

    int ruled(int what) {
        if (smithy == null || what < 0 || what > 1) return -3;
        int first = -2;
        int n = 0;
        for (int k = -1; k < rules.size(); k++) {
            if (course(k < 0 ? null : rules.get(k)) == null) continue;
            if (n == 0) first = k;
            n++;
        }
        return what == 0 ? n : first;
    }

    int look(int n, int what) {
        if (smithy == null || n < 0 || n > 99 || what < 0 || what > 1) return NONE;
        int best = NONE;
        int fewest = 99;
        for (int p = 0; p < 3; p++) {
            Map<Integer, Integer> groups = new HashMap<>();
            for (int k = -1; k < rules.size(); k++) {
                int[][] rows = course(k < 0 ? null : rules.get(k));
                if (rows != null) groups.merge(rows[n][p], 1, Integer::sum);
            }
            if (groups.isEmpty()) return -2;
            int most = 0;
            for (int g : groups.values()) most = Math.max(most, g);
            if (most < fewest) {
                fewest = most;
                best = p;
            }
        }
        return what == 0 ? best : fewest;
    }

    int second() {
        if (smithy == null) return -100000;
        int[] took = new int[2];
        for (int two = 0; two < 2; two++) {
            Way w = way();
            w.two = two == 1;
            State st = new State(now);
            while (took[two] < 500) {
                boolean all = true;
                for (int l : st.left) all &= l == 0;
                if (all) break;
                step(smithy, st, w);
                took[two]++;
            }
        }
        return took[0] - took[1];
    }

    int seed(int v) {
        if (v < 0) return NONE;
        int was = x;
        x = v;
        return was;
    }

    int days(int m, int n, int p, int what) {
        if (smithy == null || m < 1 || m > 10 || n < 1 || n > 99 || p < 0 || p > 100) return NONE;
        if (what < 0 || what > 1) return NONE;
        long draw = x;
        int[] sums = new int[2];
        for (int d = 0; d < m; d++) {
            State st = new State(now);
            for (int k = 0; k < n; k++) {
                draw = (draw * 1103515245 + 12345) & 0x7fffffffL;
                Way w = way();
                w.noHeat = (draw >> 16) % 100 < p;
                Told t = step(smithy, st, w);
                sums[0] += t.blows;
                sums[1] += t.burns;
            }
        }
        return sums[what];
    }

    int count(int what) {
        int pay = 0;
        int done = 0;
        int split = 0;
        if (smithy != null) {
            for (int j = 0; j < now.left.length; j++) {
                if (now.left[j] == 0) {
                    pay += smithy.jobs.get(j).pay;
                    done += 1 << j;
                }
            }
            for (int p = 0; p < 3; p++) if (now.worn[p] >= smithy.strength) split += 1 << p;
        }
        boolean no = smithy == null;
        int[] all = {no ? 0 : smithy.cool, no ? 0 : smithy.burn, no ? 0 : smithy.strength,
            no ? 0 : smithy.quick.size(), no ? 0 : smithy.jobs.size(), rules.size(), inForce,
            no ? 0 : now.moment, done, pay, split, notes.size(), past.size(), x, tape.length()};
        return what < 0 || what >= all.length ? NONE : all[what];
    }

    int image(int k) {
        if (k < 0 || k > 3) return NONE;
        images[k] = new Object[] {smithy, now == null ? null : new State(now), new ArrayList<>(notes), inForce, x};
        return now == null ? 0 : now.moment;
    }

    @SuppressWarnings("unchecked")
    int back(int k) {
        if (k < 0 || k > 3 || images[k] == null) return NONE;
        Object[] i = images[k];
        smithy = (Smithy) i[0];
        now = i[1] == null ? null : new State((State) i[1]);
        notes = new ArrayList<>((List<int[]>) i[2]);
        inForce = (Integer) i[3];
        x = (Integer) i[4];
        past = new ArrayList<>();
        return now == null ? 0 : now.moment;
    }
}
